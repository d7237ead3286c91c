/**
 * The boundaries of point 3 of a slot (promise 7): what is received, and what follows. No run of calls shows these:
 *
 * "ASK: .. has none due": a frame is due at u only since one that ended with u - 2 was heard then. An ASK that is
 * received with a frame due ends with u - 2 or u - 1, so one of its slots is u - 2, in which another sender is heard:
 * not good.
 *
 * "ANSWER: if it waits for that from there", and the same of ACKNOWLEDGE: such a frame comes only from a station that
 * received the ASK or DATA, and ends 3 slots behind it; the sender waits for just that frame until 4 slots behind it.
 */
public final class EdgeReceiveTest {
    private static final Due DUE = new Due("EdgeReceiveTest");

    public static void main(String[] args) {
        allSlotsOfAsk();
        allSlotsOfAnswer();
        allSlotsOfAcknowledge();
        ofDataItsHead();
        silentUntilBehindTheRest();
        silentUntilTheLaterOne();
        askWhenItIsSilent();
        askWhenItWaits();
        payloadsWhoseSlotsWereAllGood();
        firstAndLastSlotOfTheLongest();
        dataWhenItSends();
        dataWhenAFrameIsDue();
        dataOfTwoEndsInOneSlot();
        acknowledgedNoneOneAll();
        drawnIfItKeepsOthers();
        DUE.end();
    }

    /** "RECEIVED, if all its slots were good there": ASK of 0 in 3 and 4, noise in one slot at 1 and 2. */
    private static void allSlotsOfAsk() {
        for (int noise = 2; noise <= 5; noise++) {
            SlotRadio radio = oneFrom0To1(0, 1);
            radio.noise(1, noise, 1);
            radio.noise(2, noise, 1);
            boolean good = noise < 3 || noise > 4;
            radio.run(5);
            DUE.is("silent by ASK, noise in " + noise, radio.state(2, 3), good ? 9 : 0);
            radio.run(2);
            DUE.is("answers ASK, noise in " + noise, radio.sent(1, 2), good ? 1 : 0);
        }
    }

    /** ANSWER of 1 in 6 and 7, noise in one slot at 0. */
    private static void allSlotsOfAnswer() {
        for (int noise = 5; noise <= 8; noise++) {
            SlotRadio radio = oneFrom0To1(0, 1);
            radio.noise(0, noise, 1);
            radio.run(10);
            boolean good = noise < 6 || noise > 7;
            DUE.is("DATA behind ANSWER, noise in " + noise, radio.sent(0, 3), good ? 1 : 0);
            DUE.is("tries behind ANSWER, noise in " + noise, radio.state(0, 2), good ? 0 : 1);
        }
    }

    /** ACKNOWLEDGE of 1 in 6 and 7, noise in one slot at 0. */
    private static void allSlotsOfAcknowledge() {
        for (int noise = 5; noise <= 8; noise++) {
            SlotRadio radio = oneFrom0To1(20, 1);
            radio.noise(0, noise, 1);
            radio.run(9);
            boolean good = noise < 6 || noise > 7;
            DUE.is("kept behind ACKNOWLEDGE, noise in " + noise, radio.state(0, 7), good ? 0 : 1);
            DUE.is("tries behind ACKNOWLEDGE, noise in " + noise, radio.state(0, 2), good ? 0 : 1);
        }
    }

    /** "(of DATA: its head)": DATA in 3 .. 11; noise in the head alone, and in all but the head. */
    private static void ofDataItsHead() {
        dataReceived("noise before the head", 2, 1, true);
        dataReceived("noise in the head alone", 3, 1, false);
        dataReceived("noise in all but the head", 4, 8, true);
        dataReceived("noise in all", 3, 9, false);
        dataReceived("noise in the last slot", 11, 1, true);
    }

    private static void dataReceived(String when, int from, int n, boolean received) {
        SlotRadio radio = oneFrom0To1(20, 8);
        radio.noise(1, from, n);
        radio.noise(2, from, n);
        radio.run(12);
        DUE.is("silent, " + when, radio.state(2, 3), received ? 3 : 0);
        radio.run(2);
        DUE.is("acknowledges, " + when, radio.sent(1, 4), received ? 1 : 0);
    }

    private static SlotRadio oneFrom0To1(int threshold, int... payloads) {
        SlotRadio radio = new SlotRadio(3);
        radio.threshold(threshold);
        for (int slots : payloads) {
            radio.offer(0, 1, slots);
        }
        return radio;
    }

    /** "silent until t + 1 + LEFT": the shortest and the longest DATA; what is not asked about is lost by noise. */
    private static void silentUntilBehindTheRest() {
        int[][] rows = {{1}, {8, 8, 8, 8}};
        for (int[] row : rows) {
            int slots = row.length == 1 ? 2 : 33;
            silentBehind("ASK for " + slots, row, 4, 7 + slots);
            silentBehind("ANSWER for " + slots, row, 7, 4 + slots, 4);
            silentBehind("DATA of " + slots, row, 8 + slots, 3, 4, 7);
            silentBehind("ACKNOWLEDGE of " + slots, row, 11 + slots, 0, 4, 7, 9);
        }
    }

    private static void silentBehind(String frame, int[] row, int end, int want, int... noise) {
        SlotRadio radio = oneFrom0To1(0, row);
        for (int slot : noise) {
            radio.noise(2, slot, 1);
        }
        radio.run(end);
        DUE.is("silent before the end of " + frame, radio.state(2, 3), 0);
        radio.run(1);
        DUE.is("silent behind " + frame, radio.state(2, 3), want);
        if (want == 0) {
            radio.run(1);
            DUE.is("it was received, so it needs 3", radio.state(2, 6), 3);
            DUE.is("and it is idle at once", radio.state(2, 5), 1);
        }
    }

    /**
     * "(if that is later)": 1 does not hear 0 and sends just behind it. ASK for 4 in 3 and 4, silent until 16: DATA
     * in 5 and 6, until 10, is earlier. DATA in 3 and 4, until 8: ASK for 3 in 5 and 6, until 17, is later. In a
     * whole exchange all say the same.
     */
    private static void silentUntilTheLaterOne() {
        SlotRadio earlier = oneFrom0To1(4, 3);
        earlier.hear(1, 0, false);
        earlier.run(5);
        DUE.is("silent behind ASK", earlier.state(2, 3), 16 - 5);
        earlier.offer(1, 0, 1);
        earlier.run(2);
        DUE.is("DATA was sent", earlier.sent(1, 3), 1);
        DUE.is("silent until the same slot", earlier.state(2, 3), 16 - 7);
        SlotRadio later = oneFrom0To1(3, 1);
        later.hear(1, 0, false);
        later.run(5);
        DUE.is("silent behind DATA", later.state(2, 3), 8 - 5);
        later.offer(1, 0, 2);
        later.run(2);
        DUE.is("ASK was sent", later.sent(1, 1), 1);
        DUE.is("silent until a later slot", later.state(2, 3), 17 - 7);
        SlotRadio same = oneFrom0To1(0, 1);
        same.run(4);
        DUE.states("silent", same, 2, 3, 9, 8, 7, 6, 5, 4, 3, 2, 1, 0, 0);
    }

    /**
     * "ASK: if it is silent until t + 1 at most": 2 asks 3, which is deaf, in 3 and 4 for 2 slots, so 1 is silent until
     * 14. Station 0 does not hear 2 and asks 1.
     */
    private static void askWhenItIsSilent() {
        for (int end = 11; end <= 15; end++) {
            SlotRadio radio = new SlotRadio(4);
            radio.threshold(0);
            radio.hear(0, 2, false);
            radio.hear(3, 2, false);
            radio.coin(0);
            radio.coin(7);
            radio.offer(2, 3, 1);
            radio.run(end - 1);
            radio.offer(0, 1, 1);
            radio.run(4);
            DUE.is("ASK that ends with " + end, radio.sent(0, 1), 1);
            DUE.is("answered when it ends with " + end, radio.sent(1, 2), end >= 13 ? 1 : 0);
        }
    }

    /**
     * "waits for nothing": 1 asks 2, which is deaf, in 3 and 4 and waits until 8. Station 0 does not hear 1 and asks
     * it.
     */
    private static void askWhenItWaits() {
        for (int end = 6; end <= 9; end++) {
            SlotRadio radio = new SlotRadio(3);
            radio.threshold(0);
            radio.hear(2, 1, false);
            radio.hear(0, 1, false);
            radio.offer(1, 2, 1);
            radio.run(end - 1);
            radio.offer(0, 1, 1);
            radio.run(4);
            DUE.is("ASK that ends with " + end, radio.sent(0, 1), 1);
            DUE.is("answered when it ends with " + end, radio.sent(1, 2), end >= 8 ? 1 : 0);
        }
    }

    /**
     * "its payloads whose slots were all good are taken": DATA has its head in 3, payload 1 in 4 5, payload 2 in 6 7.
     */
    private static void payloadsWhoseSlotsWereAllGood() {
        int[][][] want = {
            {{1, 1, 7}, {2, 1, 7}, {1, 3, 10}, {2, 3, 10}}, {}, {{2, 3, 10}}, {{2, 3, 10}},
            {{1, 1, 7}, {1, 3, 10}}, {{1, 1, 7}, {1, 3, 10}}, {{1, 1, 7}, {2, 1, 7}, {1, 3, 10}, {2, 3, 10}}};
        for (int noise = 2; noise <= 8; noise++) {
            SlotRadio radio = oneFrom0To1(20, 2, 2);
            radio.noise(1, noise, 1);
            radio.run(11);
            DUE.events("noise in " + noise, radio, want[noise - 2]);
        }
    }

    /** DATA of 33 slots in 3 .. 35: the last payload has 28 .. 35. */
    private static void firstAndLastSlotOfTheLongest() {
        int[] slots = {27, 28, 35, 36};
        for (int noise : slots) {
            SlotRadio radio = oneFrom0To1(100, 8, 8, 8, 8);
            radio.noise(1, noise, 1);
            radio.run(39);
            DUE.is("kept, noise in " + noise, radio.state(0, 7), noise == 36 ? 0 : 1);
            DUE.is("handed over, noise in " + noise, radio.event(3, 1), noise == 36 ? 1 : 3);
            DUE.is("the third, noise in " + noise, radio.event(2, 1), noise == 27 ? 3 : 1);
        }
    }

    /**
     * "unless it sends in t": 0 and 2 do not hear each other. 0 asks 1 in 3 and 4, and 1 answers in 6 and 7; DATA of 2
     * for 1 begins in 5 and ends with 6, 7 or 8.
     */
    private static void dataWhenItSends() {
        for (int end = 6; end <= 8; end++) {
            SlotRadio radio = new SlotRadio(3);
            radio.threshold(5);
            radio.hear(0, 2, false);
            radio.hear(2, 0, false);
            radio.coin(0);
            radio.coin(2);
            radio.offer(0, 1, 4);
            radio.offer(2, 1, end - 5);
            radio.run(end + 3);
            DUE.is("answered", radio.sent(1, 2), 1);
            DUE.is("acknowledged when DATA ends with " + end, radio.sent(1, 4), end == 8 ? 1 : 0);
        }
    }

    /**
     * "or has a frame due": 2 sends DATA to 1 from 3 on, which 1 does not hear in 4 .. 8. 0 asks 1 in 7 and 8: ANSWER
     * is due at 10, and sent in 10 and 11. DATA ends with 9, 10, 11 or 12.
     */
    private static void dataWhenAFrameIsDue() {
        for (int end = 9; end <= 12; end++) {
            SlotRadio radio = new SlotRadio(3);
            radio.threshold(15);
            radio.hear(0, 2, false);
            radio.hear(2, 0, false);
            radio.offer(2, 1, end - 8);
            radio.offer(2, 1, 5);
            radio.run(4);
            radio.hear(1, 2, false);
            radio.run(3);
            radio.offer(0, 1, 8);
            radio.offer(0, 1, 8);
            radio.run(2);
            radio.hear(1, 2, true);
            radio.run(7);
            DUE.is("answered", radio.sent(1, 2), 1);
            DUE.is("acknowledged when DATA ends with " + end, radio.sent(1, 4), end == 12 ? 1 : 0);
        }
    }

    /**
     * Two DATA for 1 end with 8, and their heads, in 3 and 5, were good. "For senders in their order": 0 is
     * acknowledged, none of its payloads, and fails in 11; then ACKNOWLEDGE is due, 2 is not acknowledged and fails
     * in 12.
     */
    private static void dataOfTwoEndsInOneSlot() {
        for (int first = 0; first <= 2; first += 2) {
            int second = 2 - first;
            SlotRadio radio = new SlotRadio(3);
            radio.hear(0, 2, false);
            radio.hear(2, 0, false);
            radio.offer(first, 1, 5);
            radio.run(5);
            radio.hear(1, first, false);
            radio.offer(second, 1, 3);
            radio.run(1);
            radio.hear(1, first, true);
            radio.run(5);
            DUE.is("tries of 0 behind 10", radio.state(0, 2), 0);
            radio.run(1);
            DUE.is("tries of 0 behind 11", radio.state(0, 2), 1);
            DUE.is("tries of 2 behind 11", radio.state(2, 2), 0);
            radio.run(1);
            DUE.is("tries of 2 behind 12", radio.state(2, 2), 1);
            DUE.is("acknowledged once", radio.sent(1, 4), 1);
        }
    }

    /**
     * "if there is one, tries are 0, the width 3; otherwise the attempt has FAILED": DATA with two payloads in 3 .. 5
     * fails in 9 for its head has noise, and again in 12 .. 14, where none, one or both are good; ACKNOWLEDGE in 16
     * and 17.
     */
    private static void acknowledgedNoneOneAll() {
        int[][] noise = {{13, 2}, {13, 1}, {14, 1}, {15, 1}};
        int[] kept = {2, 1, 1, 0};
        for (int i = 0; i < noise.length; i++) {
            SlotRadio radio = oneFrom0To1(20, 1, 1);
            radio.noise(1, 3, 1);
            radio.noise(1, noise[i][0], noise[i][1]);
            radio.run(17);
            DUE.is("tries before ACKNOWLEDGE " + i, radio.state(0, 2), 1);
            DUE.is("width before ACKNOWLEDGE " + i, radio.state(0, 0), 7);
            DUE.is("acknowledged with " + i, radio.run(1), 2 - kept[i]);
            DUE.is("kept behind ACKNOWLEDGE " + i, radio.state(0, 7), kept[i]);
            DUE.is("tries behind ACKNOWLEDGE " + i, radio.state(0, 2), kept[i] == 2 ? 2 : 0);
            DUE.is("width behind ACKNOWLEDGE " + i, radio.state(0, 0), kept[i] == 2 ? 15 : 3);
        }
    }

    /** "if there is one and it keeps others, its count is drawn": by ACKNOWLEDGE in 8, of both, of one, and of none. */
    private static void drawnIfItKeepsOthers() {
        int[][] noise = {{6, 1}, {5, 1}, {4, 1}, {4, 2}};
        int[] counts = {0, 2, 2, 6};
        for (int i = 0; i < noise.length; i++) {
            SlotRadio radio = oneFrom0To1(20, 1, 1);
            radio.noise(1, noise[i][0], noise[i][1]);
            radio.coin(6);
            radio.run(8);
            DUE.is("not drawn before ACKNOWLEDGE " + i, radio.coin(0), 2);
            radio.run(1);
            DUE.is("count behind ACKNOWLEDGE " + i, radio.state(0, 1), counts[i]);
            DUE.is("coins left behind ACKNOWLEDGE " + i, radio.coin(0), i == 0 ? 3 : 2);
        }
    }
}
