/**
 * The boundaries of FAILED (promise 7). "The width is twice as much and 1, 63 at most": no run of calls comes to a
 * width that would be above 63. It is 3 whenever tries are 0, and grows with tries: 7, 15, 31 and, with 4 of them,
 * 63; with the fifth failure tries and width are 0 and 3 again.
 */
public final class EdgeFailedTest {
    private static final Due DUE = new Due("EdgeFailedTest");
    private static final int WIDTH = 0, COUNT = 1, TRIES = 2, KEPT = 7;

    public static void main(String[] args) {
        aboveFour();
        onlyTheFirst();
        aboveFourByAnEmptyAcknowledgement();
        fourthAgainBehindASuccess();
        drawnIfItKeepsPayloads();
        widthOfAllTries();
        DUE.end();
    }

    /** DATA of 2 slots in 3, 11, 19, 27 and 35, not heard: it fails in 8, 16, 24, 32 and 40. */
    private static SlotRadio failing(int failures, int... coins) {
        SlotRadio radio = new SlotRadio(3);
        radio.hear(1, 0, false);
        for (int coin : coins) {
            radio.coin(coin);
        }
        radio.offer(0, 1, 1);
        if (failures > 0) {
            radio.run(8 * failures + 1);
        }
        return radio;
    }

    /** "tries are one more; above 4 the attempt's first payload is GIVEN UP (kept no more)". */
    private static void aboveFour() {
        for (int failures = 0; failures <= 4; failures++) {
            SlotRadio radio = failing(failures);
            DUE.is("tries behind " + failures, radio.state(0, TRIES), failures);
            DUE.is("kept behind " + failures, radio.state(0, KEPT), 1);
            DUE.events("behind " + failures, radio, new int[][] {});
        }
        SlotRadio radio = failing(5);
        DUE.is("tries behind 5", radio.state(0, TRIES), 0);
        DUE.is("width behind 5", radio.state(0, WIDTH), 3);
        DUE.is("kept behind 5", radio.state(0, KEPT), 0);
        DUE.events("behind 5", radio, new int[][] {{1, 2, 40}});
        radio.run(100);
        DUE.is("it is not sent again", radio.sent(0, 3), 5);
    }

    /** DATA with 4 of 5 payloads begins in 3, 14, 25, 36 and 47, and fails in 11, 22, 33, 44 and 55. */
    private static void onlyTheFirst() {
        SlotRadio radio = new SlotRadio(2);
        radio.hear(1, 0, false);
        for (int i = 0; i < 5; i++) {
            radio.offer(0, 1, 1);
        }
        radio.run(55);
        DUE.is("kept before", radio.state(0, KEPT), 5);
        radio.run(1);
        DUE.is("kept behind", radio.state(0, KEPT), 4);
        DUE.events("the first alone", radio, new int[][] {{1, 2, 55}});
    }

    /** The fifth failure is an ACKNOWLEDGE in 38 and 39 that tells none. */
    private static void aboveFourByAnEmptyAcknowledgement() {
        SlotRadio radio = failing(4);
        radio.hear(1, 0, true);
        radio.noise(1, 36, 1);
        radio.run(6);
        DUE.is("tries before", radio.state(0, TRIES), 4);
        DUE.is("width before", radio.state(0, WIDTH), 63);
        radio.run(1);
        DUE.is("tries behind", radio.state(0, TRIES), 0);
        DUE.is("width behind", radio.state(0, WIDTH), 3);
        DUE.events("given up", radio, new int[][] {{1, 2, 39}});
    }

    /** Payload 1 goes with the fifth attempt, in 35 .. 39; payload 2 has all its five attempts in 43 .. 80. */
    private static void fourthAgainBehindASuccess() {
        SlotRadio radio = failing(4);
        radio.hear(1, 0, true);
        radio.hear(2, 0, false);
        radio.offer(0, 2, 1);
        radio.run(7);
        DUE.events("acknowledged", radio, new int[][] {{1, 1, 36}, {1, 3, 39}});
        DUE.is("tries", radio.state(0, TRIES), 0);
        DUE.is("width", radio.state(0, WIDTH), 3);
        radio.run(33);
        DUE.is("tries behind 72", radio.state(0, TRIES), 4);
        DUE.is("width behind 72", radio.state(0, WIDTH), 63);
        radio.run(7);
        DUE.is("kept behind 79", radio.state(0, KEPT), 1);
        radio.run(1);
        DUE.is("kept behind 80", radio.state(0, KEPT), 0);
        DUE.events("given up", radio, new int[][] {{1, 1, 36}, {1, 3, 39}, {2, 2, 80}});
    }

    /** "If it keeps payloads its count is drawn": the fifth failure leaves none, or one. */
    private static void drawnIfItKeepsPayloads() {
        SlotRadio none = failing(5, 0, 0, 0, 0, 0, 2);
        DUE.is("count when none is kept", none.state(0, COUNT), 0);
        DUE.is("the coin is left", none.coin(0), 2);
        SlotRadio one = failing(0, 0, 0, 0, 0, 0, 2);
        one.offer(0, 2, 1);
        one.run(41);
        DUE.is("kept", one.state(0, KEPT), 1);
        DUE.is("count of 0 .. 3 when one is kept", one.state(0, COUNT), 2);
        DUE.is("the coin is drawn", one.coin(0), 1);
    }

    /** "otherwise the width is twice as much and 1". */
    private static void widthOfAllTries() {
        int[] widths = {3, 7, 15, 31, 63, 3};
        for (int failures = 0; failures < widths.length; failures++) {
            DUE.is("width behind " + failures, failing(failures).state(0, WIDTH), widths[failures]);
        }
    }
}
