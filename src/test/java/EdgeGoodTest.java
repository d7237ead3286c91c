/**
 * The boundaries of point 2 of a slot (promise 7): which slots of a frame are GOOD at a station. How far a row of noise
 * goes is looked at in EdgeNoiseTest.
 */
public final class EdgeGoodTest {
    private static final Due DUE = new Due("EdgeGoodTest");

    public static void main(String[] args) {
        thatDoesNotSend();
        hearsNoOtherOne();
        doesNotHearTheOtherOne();
        hearsItsSender();
        bothBeginInOneSlot();
        DUE.end();
    }

    /**
     * "if that does not send": DATA of 0 has its head in 3 and payloads of 8 slots in 4 .. 11, 12 .. 19, 20 .. 27 and
     * 28 .. 35. Station 1 does not hear it from 4 on, is idle, and sends DATA of 2 slots in t and t + 1; it hears
     * from t on again. What it hears in no slot, or sends in, is lost to it.
     */
    private static void thatDoesNotSend() {
        takenWhenItSendsIn(17, 3, 4);
        takenWhenItSendsIn(18, 3, 4);
        takenWhenItSendsIn(19, 4);
        takenWhenItSendsIn(20, 4);
        takenWhenItSendsIn(26, 4);
        takenWhenItSendsIn(27);
        takenWhenItSendsIn(28);
    }

    private static void takenWhenItSendsIn(int t, int... want) {
        SlotRadio radio = new SlotRadio(2);
        radio.threshold(100);
        for (int i = 0; i < 4; i++) {
            radio.offer(0, 1, 8);
        }
        radio.run(4);
        radio.hear(1, 0, false);
        radio.run(t - 4);
        radio.hear(1, 0, true);
        radio.offer(1, 0, 1);
        DUE.is("not begun before " + t, radio.sent(1, 3), 0);
        radio.run(1);
        DUE.is("begun in " + t, radio.sent(1, 3), 1);
        radio.run(38 - t);
        for (int i = 0; i < want.length; i++) {
            DUE.is("acknowledged " + i + " when it sends in " + t, radio.event(i, 0), want[i]);
            DUE.is("its kind", radio.event(i, 1), 3);
        }
        DUE.is("no more when it sends in " + t, radio.event(want.length, 0), SlotRadio.NONE);
    }

    /**
     * "hears no other one that sends": 0 and 2 do not hear each other. DATA of 0 for 1 has its head in 10 and payloads
     * in 11, 12, 13 and 14; DATA of 2 for 3 (which is deaf) is in t and t + 1.
     */
    private static void hearsNoOtherOne() {
        int[] left = {0, 4, 4, 2, 2, 2, 1, 0};
        for (int t = 8; t <= 15; t++) {
            DUE.is("kept when another one sends in " + t, keptWhenAnotherSendsIn(t, true), left[t - 8]);
        }
    }

    /** The same, but 1 does not hear 2. */
    private static void doesNotHearTheOtherOne() {
        for (int t = 8; t <= 15; t++) {
            DUE.is("kept when one that is not heard sends in " + t, keptWhenAnotherSendsIn(t, false), 0);
        }
    }

    private static int keptWhenAnotherSendsIn(int t, boolean heard) {
        SlotRadio radio = new SlotRadio(4);
        radio.hear(0, 2, false);
        radio.hear(2, 0, false);
        radio.hear(3, 2, false);
        radio.hear(1, 2, heard);
        for (int slot = 0; slot < 18; slot++) {
            for (int i = 0; slot == 10 && i < 4; i++) {
                radio.offer(0, 1, 1);
            }
            if (slot == t) {
                radio.offer(2, 3, 1);
            }
            radio.run(1);
        }
        return radio.state(0, 7);
    }

    /** "at a station that hears its sender": deaf in one slot of DATA in 3 .. 7, that has noise nowhere. */
    private static void hearsItsSender() {
        int[] left = {0, 4, 1, 1, 1, 4, 0};
        for (int deaf = 2; deaf <= 8; deaf++) {
            SlotRadio radio = Twins.kept(4);
            radio.run(deaf);
            radio.hear(1, 0, false);
            radio.run(1);
            radio.hear(1, 0, true);
            radio.run(10 - deaf);
            DUE.is("kept when deaf in " + deaf, radio.state(0, 7), left[deaf - 2]);
        }
    }

    /** Frames that begin and end together: no slot is good, neither at a third one nor at the senders. */
    private static void bothBeginInOneSlot() {
        SlotRadio radio = new SlotRadio(3);
        radio.offer(0, 1, 1);
        radio.offer(1, 0, 1);
        DUE.is("nothing is handed over", radio.run(8), 0);
        DUE.is("0 sent", radio.sent(0, 3), 1);
        DUE.is("1 sent", radio.sent(1, 3), 1);
        DUE.is("none acknowledges", radio.sent(0, 4) + radio.sent(1, 4) + radio.sent(2, 4), 0);
        DUE.is("the third is not silent", radio.state(2, 3), 0);
        DUE.is("the third needs 6", radio.state(2, 6), 6);
    }
}
