/** Promise 7, point 3: when a station replies to what it receives, though it waits, sends or has a frame due. */
public final class RepliesTest {
    private static final Due DUE = new Due("RepliesTest");

    public static void main(String[] args) {
        whoWaitsAcknowledges();
        whoSendsDoesNotAcknowledge();
        whoSentBeforeAcknowledges();
        whoHasAFrameDueDoesNotAcknowledge();
        answersOfOthersDoNotCount();
        DUE.end();
    }

    /** 1 sends DATA to 2 (deaf) in 3 and 4 and waits until 8; 0 does not hear 1 and sends it DATA in 5 and 6. */
    private static void whoWaitsAcknowledges() {
        SlotRadio radio = new SlotRadio(3);
        radio.hear(2, 1, false);
        radio.hear(0, 1, false);
        radio.coin(0);
        radio.coin(2);
        radio.offer(1, 2, 1);
        radio.offer(0, 1, 1);
        radio.run(8);
        DUE.events("who waits takes", radio, new int[][] {{2, 1, 6}});
        DUE.is("tries in 7", radio.state(1, 2), 0);
        radio.run(1);
        DUE.is("it sends in 8", radio.state(1, 4), 4);
        DUE.is("and fails in 8", radio.state(1, 2), 1);
    }

    /** 0 and 2 do not hear each other. 0 asks 1 in 3 and 4; 2 sends DATA to 1 from 5 on; 1 answers in 6 and 7. */
    private static SlotRadio dataBeforeTheAnswer(int payloadSlots) {
        SlotRadio radio = new SlotRadio(3);
        radio.threshold(payloadSlots + 2);
        radio.hear(0, 2, false);
        radio.hear(2, 0, false);
        radio.coin(0);
        radio.coin(2);
        radio.offer(0, 1, payloadSlots + 1);
        radio.offer(2, 1, payloadSlots);
        return radio;
    }

    /** DATA ends with 6 or 7, while 1 sends: no ACKNOWLEDGE, and it fails 4 slots behind its end. */
    private static void whoSendsDoesNotAcknowledge() {
        for (int slots = 1; slots <= 2; slots++) {
            SlotRadio radio = dataBeforeTheAnswer(slots);
            radio.run(5 + slots + 4);
            DUE.is("tries before", radio.state(2, 2), 0);
            radio.run(1);
            DUE.is("tries behind", radio.state(2, 2), 1);
            DUE.is("answered", radio.sent(1, 2), 1);
            DUE.is("not acknowledged", radio.sent(1, 4), 0);
        }
    }

    /** DATA ends with 8, when 1 sends no more: ACKNOWLEDGE in 10 and 11 tells none, though 0 sends DATA from 9 on. */
    private static void whoSentBeforeAcknowledges() {
        SlotRadio radio = dataBeforeTheAnswer(3);
        radio.run(11);
        DUE.is("acknowledges", radio.state(1, 4), 4);
        DUE.is("tries in 10", radio.state(2, 2), 0);
        radio.run(1);
        DUE.is("tries in 11", radio.state(2, 2), 1);
        radio.run(4);
        DUE.is("the other DATA lost its payload", radio.sent(1, 4), 2);
        DUE.is("tries of 0 in 15", radio.state(0, 2), 0);
        radio.run(1);
        DUE.is("tries of 0 in 16", radio.state(0, 2), 1);
        DUE.events("none went", radio, new int[][] {});
    }

    /**
     * 2 sends DATA to 1 in 3 .. 9, which 1 does not hear in 4 .. 8. 0 asks 1 in 7 and 8: ANSWER is due at 10 when DATA
     * ends with 9.
     */
    private static void whoHasAFrameDueDoesNotAcknowledge() {
        SlotRadio radio = new SlotRadio(3);
        radio.threshold(8);
        radio.hear(0, 2, false);
        radio.hear(2, 0, false);
        radio.offer(2, 1, 6);
        radio.run(4);
        radio.hear(1, 2, false);
        radio.run(3);
        radio.offer(0, 1, 7);
        radio.run(2);
        radio.hear(1, 2, true);
        radio.run(2);
        DUE.is("it answers in 10", radio.state(1, 4), 2);
        radio.run(3);
        DUE.is("it has acknowledged nothing", radio.sent(1, 4), 0);
        DUE.is("2 fails in 13", radio.state(2, 2), 1);
        radio.run(12);
        DUE.events("the answer led to DATA", radio, new int[][] {{2, 1, 20}, {2, 3, 23}});
    }

    /** 1 acknowledges 2 while 0 waits for 1: that is not for 0, and 0 waits on. */
    private static void answersOfOthersDoNotCount() {
        SlotRadio radio = new SlotRadio(4);
        radio.hear(0, 2, false);
        radio.hear(2, 0, false);
        radio.hear(1, 0, false);
        radio.coin(1);
        radio.coin(0);
        radio.offer(0, 1, 1);
        radio.offer(2, 1, 1);
        radio.run(8);
        DUE.events("for the other one", radio, new int[][] {{2, 1, 4}, {2, 3, 7}});
        DUE.is("0 is silent until 8", radio.state(0, 3), 0);
        DUE.is("0 keeps its payload", radio.state(0, 7), 1);
        radio.run(2);
        DUE.is("0 fails in 9", radio.state(0, 2), 1);
    }
}
