/** Promise 7, TAKING: payloads are handed over once and in order. */
public final class TakingTest {
    private static final Due DUE = new Due("TakingTest");

    public static void main(String[] args) {
        heldUntilTheGapIsFilled();
        heldUntilTheGapIsGivenUp();
        heldBelowAndAbove();
        handedOverByAHeadAlone();
        numbersOfEachPair();
        DUE.end();
    }

    /** DATA in 3 .. 7, a slot each: 1 and 3 are lost; they go in 14 .. 16. */
    private static void heldUntilTheGapIsFilled() {
        SlotRadio radio = fourPayloads(4, 6);
        radio.run(30);
        DUE.events("gaps are filled", radio, new int[][] {
            {2, 3, 10}, {4, 3, 10}, {1, 1, 16}, {2, 1, 16}, {3, 1, 16}, {4, 1, 16}, {1, 3, 19}, {3, 3, 19}});
        SlotRadio part = fourPayloads(5, 7);
        part.run(30);
        DUE.events("as far as there is no gap", part, new int[][] {
            {1, 1, 7}, {1, 3, 10}, {3, 3, 10}, {2, 1, 16}, {3, 1, 16}, {4, 1, 16}, {2, 3, 19}, {4, 3, 19}});
    }

    private static SlotRadio fourPayloads(int... lost) {
        SlotRadio radio = new SlotRadio(2);
        for (int i = 0; i < 4; i++) {
            radio.offer(0, 1, 1);
        }
        for (int slot : lost) {
            radio.noise(1, slot, 1);
        }
        return radio;
    }

    /** 2 is held; 1 is given up in 55; DATA with 3 tells that 1 and 2 will not come. */
    private static void heldUntilTheGapIsGivenUp() {
        SlotRadio radio = new SlotRadio(2);
        radio.offer(0, 1, 2);
        radio.offer(0, 1, 1);
        radio.noise(1, 4, 1);
        radio.run(10);
        radio.hear(1, 0, false);
        radio.run(46);
        DUE.events("given up", radio, new int[][] {{2, 3, 9}, {1, 2, 55}});
        radio.hear(1, 0, true);
        radio.offer(0, 1, 1);
        radio.run(20);
        DUE.events("handed over behind it", radio, new int[][] {
            {2, 3, 9}, {1, 2, 55}, {2, 1, 59}, {3, 1, 59}, {3, 3, 62}});
    }

    /** 2 and 4 are held, 1 is given up: DATA with 3 hands over 2, 3 and 4. */
    private static void heldBelowAndAbove() {
        SlotRadio radio = givenUpFirst();
        radio.run(10);
        DUE.events("below and above", radio, new int[][] {
            {2, 3, 10}, {4, 3, 10}, {1, 2, 56}, {2, 1, 60}, {3, 1, 60}, {4, 1, 60}, {3, 3, 63}});
    }

    /** As before, but the payload of DATA in 59 and 60 is lost: its head hands over 2. */
    private static void handedOverByAHeadAlone() {
        SlotRadio radio = givenUpFirst();
        radio.noise(1, 60, 1);
        radio.run(4);
        DUE.events("by a head alone", radio, new int[][] {{2, 3, 10}, {4, 3, 10}, {1, 2, 56}, {2, 1, 60}});
        radio.run(20);
        DUE.events("then the others", radio, new int[][] {
            {2, 3, 10}, {4, 3, 10}, {1, 2, 56}, {2, 1, 60}, {3, 1, 68}, {4, 1, 68}, {3, 3, 71}});
    }

    /** 2 and 4 are held in 7; 1 and 3 are not heard in 14 .. 16, 23 .. 25 and so on; 1 is given up in 56. */
    private static SlotRadio givenUpFirst() {
        SlotRadio radio = fourPayloads(4, 6);
        radio.run(11);
        radio.hear(1, 0, false);
        radio.run(46);
        radio.hear(1, 0, true);
        DUE.is("given up first", radio.event(2, 2), 56);
        return radio;
    }

    /** Between payloads 1 and 3, from 0 to 1, come others: they have numbers of their own. */
    private static void numbersOfEachPair() {
        SlotRadio radio = new SlotRadio(3);
        radio.coin(0);
        radio.coin(3);
        radio.coin(3);
        radio.offer(0, 1, 1);
        radio.offer(1, 0, 1);
        radio.offer(2, 1, 1);
        radio.offer(0, 1, 1);
        radio.offer(2, 1, 1);
        radio.run(6);
        DUE.events("of one pair", radio, new int[][] {{1, 1, 5}, {4, 1, 5}});
        radio.run(60);
        int handed = 0;
        for (int i = 0; i < 10; i++) {
            handed += radio.event(i, 1) == 1 ? radio.event(i, 0) : 0;
        }
        DUE.is("all are handed over", handed, 1 + 2 + 3 + 4 + 5);
    }
}
