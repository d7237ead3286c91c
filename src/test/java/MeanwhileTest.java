/**
 * Promise 7, point 3, in the midst of other things: who sends, waits, is silent or has a frame due receives as others
 * do, and only what the document makes a condition is one.
 */
public final class MeanwhileTest {
    private static final Due DUE = new Due("MeanwhileTest");
    private static final int SILENT = 3, SENDS = 4, NEEDS = 6;

    public static void main(String[] args) {
        takesThoughItDoesNotAcknowledge();
        takesOnceThoughItDidNotAcknowledge();
        silentThoughItSendsOrHasAFrameDue();
        needsThreeThoughItSendsOrHasAFrameDue();
        sendsWhatIsDueThoughItIsSilent();
        acknowledgesThoughItIsSilent();
        dataFollowsAnswerThoughItIsSilent();
        DUE.end();
    }

    /**
     * 2 sends DATA from 3 on, of which 1 does not hear 5 .. 8: its head and its first payload, of one slot, are good. 0
     * asks 1 in 7 and 8: ANSWER is due at 10, and sent in 10 and 11. DATA ends with 9 (a frame is due), 10 or 11 (it
     * sends) or 12 (neither), and that slot has just passed. 0 and 2 do not hear each other, and 3 does not hear 2.
     */
    private static SlotRadio dataEndsWith(int end, int receiver, boolean headIsGood) {
        SlotRadio radio = new SlotRadio(4);
        radio.threshold(15);
        radio.hear(0, 2, false);
        radio.hear(2, 0, false);
        radio.hear(3, 2, false);
        if (!headIsGood) {
            radio.noise(1, 3, 1);
        }
        radio.offer(2, receiver, 1);
        radio.offer(2, receiver, end - 4);
        radio.run(5);
        radio.hear(1, 2, false);
        radio.run(2);
        radio.offer(0, 1, 8);
        radio.offer(0, 1, 8);
        radio.run(2);
        radio.hear(1, 2, true);
        radio.run(end - 8);
        return radio;
    }

    /** "DATA: its payloads whose slots were all good are taken": the "unless" is said of ACKNOWLEDGE alone. */
    private static void takesThoughItDoesNotAcknowledge() {
        for (int end = 9; end <= 12; end++) {
            SlotRadio radio = dataEndsWith(end, 1, true);
            DUE.events("DATA ended with " + end, radio, new int[][] {{1, 1, end}});
            radio.run(3);
            DUE.is("answered", radio.sent(1, 2), 1);
            DUE.is("acknowledged, DATA ended with " + end, radio.sent(1, 4), end == 12 ? 1 : 0);
            SlotRadio lost = dataEndsWith(end, 1, false);
            DUE.events("DATA without its head ended with " + end, lost, new int[][] {});
        }
    }

    /** 2 sends both payloads again, since it was not acknowledged: the first is not handed over again. */
    private static void takesOnceThoughItDidNotAcknowledge() {
        SlotRadio radio = dataEndsWith(9, 1, true);
        radio.hear(0, 2, true);
        radio.hear(2, 0, true);
        radio.run(100);
        int[] handed = new int[5];
        for (int i = 0; i < 8; i++) {
            if (radio.event(i, 1) == 1) {
                handed[radio.event(i, 0)]++;
            }
        }
        for (int payload = 1; payload <= 4; payload++) {
            DUE.is("payload " + payload + " is handed over so often", handed[payload], 1);
        }
        DUE.is("2 keeps none", radio.state(2, 7), 0);
        DUE.is("no more events", radio.event(8, 0), SlotRadio.NONE);
    }

    /** "If it is for another one: silent until t + 1 + LEFT": 3 slots from the next one on. */
    private static void silentThoughItSendsOrHasAFrameDue() {
        for (int end = 9; end <= 12; end++) {
            DUE.is("DATA ended with " + end, dataEndsWith(end, 3, true).state(1, SILENT), 3);
            DUE.is("DATA without its head ended with " + end, dataEndsWith(end, 3, false).state(1, SILENT), 0);
        }
    }

    /** It needs 6 since 5, where it stopped hearing 2; in the slot behind DATA it hears nothing, though it may send. */
    private static void needsThreeThoughItSendsOrHasAFrameDue() {
        for (int end = 9; end <= 11; end++) {
            SlotRadio radio = dataEndsWith(end, 3, true);
            DUE.is("needs with " + end, radio.state(1, NEEDS), 6);
            radio.run(1);
            DUE.is("needs behind " + end, radio.state(1, NEEDS), 3);
            SlotRadio lost = dataEndsWith(end, 3, false);
            lost.run(1);
            DUE.is("needs behind " + end + " without the head", lost.state(1, NEEDS), 6);
        }
    }

    /** "if a frame is due at t, it begins to send it": ANSWER in 10, though silent until 13. */
    private static void sendsWhatIsDueThoughItIsSilent() {
        SlotRadio radio = dataEndsWith(9, 3, true);
        DUE.is("silent until 13", radio.state(1, SILENT), 3);
        radio.run(1);
        DUE.is("silent still", radio.state(1, SILENT), 2);
        DUE.is("it sends ANSWER", radio.state(1, SENDS), 2);
        radio.run(3);
        DUE.is("it was received: DATA of 0 in 13", radio.state(0, SENDS), 3);
    }

    /**
     * 2 asks 3, which is deaf, in 3 and 4 for 5 slots: 1 is silent until 17. 0 does not hear 2 and sends DATA to 1 in 5
     * and 6; ACKNOWLEDGE in 8 and 9.
     */
    private static void acknowledgesThoughItIsSilent() {
        SlotRadio radio = new SlotRadio(4);
        radio.threshold(5);
        radio.hear(0, 2, false);
        radio.hear(3, 2, false);
        radio.offer(2, 3, 4);
        radio.run(5);
        radio.offer(0, 1, 1);
        radio.run(2);
        DUE.is("silent until 17", radio.state(1, SILENT), 17 - 7);
        DUE.events("taken", radio, new int[][] {{2, 1, 6}});
        radio.run(2);
        DUE.is("it sends ACKNOWLEDGE", radio.state(1, SENDS), 4);
        radio.run(1);
        DUE.events("acknowledged", radio, new int[][] {{2, 1, 6}, {2, 3, 9}});
        DUE.is("silent until 17, still", radio.state(1, SILENT), 17 - 10);
    }

    /**
     * 2 sends DATA to 3, which is deaf, in 3 .. 12; 0 hears its head and then nothing, needs 6, and asks 1, which never
     * hears 2, in 10 and 11. DATA that ends with 12 makes 0 silent until 16. ANSWER in 13 and 14: DATA in 16.
     */
    private static void dataFollowsAnswerThoughItIsSilent() {
        SlotRadio radio = new SlotRadio(4);
        radio.threshold(11);
        radio.hear(3, 2, false);
        radio.hear(1, 2, false);
        radio.offer(2, 3, 8);
        radio.offer(2, 3, 1);
        radio.run(4);
        radio.hear(0, 2, false);
        radio.offer(0, 1, 8);
        radio.offer(0, 1, 2);
        radio.run(8);
        radio.hear(0, 2, true);
        radio.run(1);
        DUE.is("asked", radio.sent(0, 1), 1);
        DUE.is("silent until 16", radio.state(0, SILENT), 16 - 13);
        radio.run(3);
        DUE.is("answered", radio.sent(1, 2), 1);
        DUE.is("no DATA before 16", radio.sent(0, 3), 0);
        radio.run(1);
        DUE.is("DATA in 16", radio.state(0, SENDS), 3);
    }
}
