/**
 * Promise 7: attempts that fail, are tried again and given up; collisions; how long a station needs the medium idle.
 */
public final class FailureTest {
    private static final Due DUE = new Due("FailureTest");

    public static void main(String[] args) {
        givenUpIsTheFirstAlone();
        whoKeepsNoneDrawsNone();
        asksFailToo();
        lostAcknowledgement();
        acknowledgementOfNothing();
        acknowledgementOfSome();
        collision();
        hiddenStations();
        needs();
        DUE.end();
    }

    private static void givenUpIsTheFirstAlone() {
        SlotRadio radio = new SlotRadio(2);
        for (int i = 0; i < 5; i++) {
            radio.coin(0);
        }
        radio.coin(2);
        radio.hear(1, 0, false);
        radio.offer(0, 1, 1);
        radio.offer(0, 1, 1);
        radio.run(46);
        DUE.events("the first", radio, new int[][] {{1, 2, 45}});
        DUE.is("the second is kept", radio.state(0, 7), 1);
        DUE.is("its count is drawn", radio.state(0, 1), 2);
        radio.run(60);
        DUE.events("the second, too", radio, new int[][] {{1, 2, 45}, {2, 2, 87}});
    }

    /** The only payload is given up in 40, or acknowledged in 7: the coin told just before is not drawn. */
    private static void whoKeepsNoneDrawsNone() {
        for (int end = 7; end <= 40; end += 33) {
            SlotRadio radio = new SlotRadio(2);
            radio.hear(1, 0, end == 7);
            radio.offer(0, 1, 1);
            radio.run(end);
            radio.coin(3);
            DUE.is("the payload goes in " + end, radio.run(1), 1);
            DUE.is("the coin is not drawn", radio.coin(3), 2);
            DUE.is("the count is as it was", radio.state(0, 1), 0);
        }
    }

    /** ASK in 3 4 fails in 8, or the ANSWER to it is lost. */
    private static void asksFailToo() {
        for (int lost = 4; lost <= 7; lost += 3) {
            SlotRadio radio = new SlotRadio(2);
            radio.threshold(0);
            radio.noise(lost == 4 ? 1 : 0, lost, 1);
            radio.offer(0, 1, 1);
            radio.run(8);
            DUE.is("tries in 7", radio.state(0, 2), 0);
            radio.run(1);
            DUE.is("tries in 8", radio.state(0, 2), 1);
            DUE.is("no DATA", radio.sent(0, 3), 0);
            DUE.is("answers", radio.sent(1, 2), lost == 7 ? 1 : 0);
            radio.run(30);
            DUE.is("then it goes", radio.event(0, 1), 1);
        }
    }

    /** The payload is sent again in 14 and 15 (6 idle slots behind a lost frame), not handed over again. */
    private static void lostAcknowledgement() {
        SlotRadio radio = new SlotRadio(2);
        radio.noise(0, 6, 1);
        radio.offer(0, 1, 1);
        radio.run(40);
        DUE.events("lost acknowledgement", radio, new int[][] {{1, 1, 4}, {1, 3, 18}});
        DUE.is("DATA", radio.sent(0, 3), 2);
        DUE.is("ACKNOWLEDGE", radio.sent(1, 4), 2);
    }

    /** The head is good, the payload is not: ACKNOWLEDGE in 6 and 7 tells none, and the attempt fails in 7. */
    private static void acknowledgementOfNothing() {
        SlotRadio radio = new SlotRadio(2);
        radio.coin(0);
        radio.coin(5);
        radio.noise(1, 4, 1);
        radio.offer(0, 1, 1);
        radio.run(7);
        DUE.is("tries in 6", radio.state(0, 2), 0);
        radio.run(1);
        DUE.is("acknowledged nothing", radio.sent(1, 4), 1);
        DUE.is("tries in 7", radio.state(0, 2), 1);
        DUE.is("width in 7", radio.state(0, 0), 7);
        DUE.is("count in 7", radio.state(0, 1), 5);
        radio.run(1);
        DUE.is("it fails once", radio.state(0, 2), 1);
    }

    /** The first attempt fails; the second, in 12 .. 14, has one of two acknowledged. */
    private static void acknowledgementOfSome() {
        SlotRadio radio = new SlotRadio(2);
        radio.coin(0);
        radio.coin(0);
        radio.coin(7);
        radio.noise(1, 3, 1);
        radio.noise(1, 13, 1);
        radio.offer(0, 1, 1);
        radio.offer(0, 1, 1);
        radio.run(17);
        DUE.is("tries of the first attempt", radio.state(0, 2), 1);
        DUE.is("width of the first attempt", radio.state(0, 0), 7);
        radio.run(1);
        DUE.events("one of two", radio, new int[][] {{2, 3, 17}});
        DUE.is("tries", radio.state(0, 2), 0);
        DUE.is("width", radio.state(0, 0), 3);
        DUE.is("count of 0 .. 3", radio.state(0, 1), 3);
        DUE.is("kept", radio.state(0, 7), 1);
    }

    /** Both begin in slot 3; neither hears the other one's frame, nor does the third receive one. */
    private static void collision() {
        SlotRadio radio = new SlotRadio(3);
        radio.coin(0);
        radio.coin(0);
        radio.coin(1);
        radio.coin(4);
        radio.offer(2, 1, 1);
        radio.offer(0, 1, 1);
        DUE.is("nothing goes through", radio.run(9), 0);
        DUE.is("the third is not silent", radio.state(1, 3), 0);
        DUE.is("0 draws before 2", radio.state(0, 1), 1);
        DUE.is("2 draws behind 0", radio.state(2, 1), 4);
        DUE.is("the third needs 6", radio.state(1, 6), 6);
        DUE.is("0 hears nothing in 5", radio.state(0, 6), 6);
        radio.run(51);
        DUE.events("later", radio, new int[][] {{2, 1, 16}, {2, 3, 19}, {1, 1, 27}, {1, 3, 30}});
    }

    /** 0 and 2 do not hear each other; 0 begins in 3, 2 in 5: what 1 hears then is lost but for the first payload. */
    private static void hiddenStations() {
        SlotRadio radio = new SlotRadio(3);
        radio.hear(0, 2, false);
        radio.hear(2, 0, false);
        radio.coin(0);
        radio.coin(2);
        radio.offer(0, 1, 1);
        radio.offer(2, 1, 8);
        radio.offer(0, 1, 4);
        radio.run(9);
        DUE.events("hidden", radio, new int[][] {{1, 1, 8}});
        radio.run(5);
        DUE.is("the acknowledgement was sent while 2 sent", radio.sent(1, 4), 1);
        DUE.is("0 heard it", radio.event(1, 1), 3);
        DUE.is("0 heard it in 11", radio.event(1, 2), 11);
        DUE.is("the other payload is kept", radio.state(0, 7) + radio.state(2, 7), 2);
    }

    /** At first 3; behind a frame that was lost 6; behind one that was received 3. */
    private static void needs() {
        SlotRadio radio = new SlotRadio(3);
        radio.noise(2, 3, 1);
        radio.offer(0, 1, 1);
        radio.run(5);
        DUE.is("DATA just ended", radio.state(2, 6), 3);
        radio.run(1);
        DUE.is("behind DATA that was lost", radio.state(2, 6), 6);
        DUE.is("behind DATA that was received", radio.state(1, 6), 3);
        DUE.is("idle behind lost DATA", radio.state(2, 5), 1);
        radio.run(2);
        DUE.is("ACKNOWLEDGE just ended", radio.state(2, 6), 6);
        radio.run(1);
        DUE.is("behind ACKNOWLEDGE for another one", radio.state(2, 6), 3);
        DUE.is("behind ACKNOWLEDGE for it", radio.state(0, 6), 3);
        SlotRadio deafened = new SlotRadio(2);
        deafened.offer(0, 1, 8);
        deafened.run(5);
        deafened.hear(1, 0, false);
        DUE.states("it hears nothing, but did: within a frame", deafened, 1, 6, 6, 6);
        deafened.hear(1, 0, true);
        deafened.run(1);
        DUE.is("it hears again", deafened.state(1, 5), 0);
    }
}
