/** The boundaries of point 4 of a slot (promise 7): how many slots a station needs, was idle for, and counts down. */
public final class EdgeIdleTest {
    private static final Due DUE = new Due("EdgeIdleTest");
    private static final int COUNT = 1, IDLE = 5, NEEDS = 6;

    public static void main(String[] args) {
        needsThreeBeforeItHeard();
        needsBehindTheSlotBefore();
        heardInThatSlot();
        receivedWithThatSlot();
        busyWhenItSends();
        busyWhenItHears();
        waitsForNothing();
        hasNoneDue();
        silentUntilTAtMost();
        moreThanItNeeds();
        moreThanItNeedsBehindALostFrame();
        countAboveZero();
        DUE.end();
    }

    /** "but did in the slot before": never at first, and noise is not heard. */
    private static void needsThreeBeforeItHeard() {
        SlotRadio radio = new SlotRadio(2);
        radio.noise(0, 0, 2);
        DUE.states("needs of who heard nothing", radio, 0, NEEDS, 3, 3, 3, 3);
    }

    /** DATA in 3 and 4, whose head has noise at 1, and DATA that is received: changed in slot 5 alone. */
    private static void needsBehindTheSlotBefore() {
        SlotRadio radio = oneFrom0To1();
        radio.noise(1, 3, 1);
        DUE.states("needs behind a lost frame", radio, 1, NEEDS, 3, 3, 3, 3, 3, 6, 6, 6);
        SlotRadio good = new SlotRadio(2);
        good.coin(0);
        good.coin(2);
        good.offer(0, 1, 1);
        good.noise(1, 3, 1);
        good.run(13);
        DUE.states("needs behind one that is received in 13 and 14", good, 1, NEEDS, 6, 6, 3, 3);
    }

    /**
     * "but did in the slot before": DATA in 3 .. 11, and hearing that is changed behind 5. Who heard 5 needs 6 in 6;
     * who did not hear it does not, though hearing was on for a while between the slots.
     */
    private static void heardInThatSlot() {
        for (int heard = 0; heard <= 1; heard++) {
            SlotRadio radio = new SlotRadio(3);
            radio.offer(0, 1, 8);
            radio.hear(2, 0, heard == 1);
            radio.run(6);
            radio.hear(2, 0, heard == 0);
            radio.hear(2, 0, false);
            DUE.states("needs of who heard 5: " + heard, radio, 2, NEEDS, heard == 1 ? 6 : 3, heard == 1 ? 6 : 3);
        }
    }

    /**
     * "if a frame that it received ended with that slot, otherwise 6": 0 and 2 do not hear each other. DATA of 0 for 1,
     * from 3 on, is received by its head; DATA of 2, in 4 and 5, is not. Hearing ends with 5 or with 6.
     */
    private static void receivedWithThatSlot() {
        needsBehind(4, 6, 6);
        needsBehind(5, 6, 3);
        needsBehind(6, 7, 3);
    }

    private static void needsBehind(int end, int slot, int want) {
        SlotRadio radio = new SlotRadio(3);
        radio.hear(0, 2, false);
        radio.hear(2, 0, false);
        radio.offer(0, 1, end - 3);
        radio.run(4);
        radio.offer(2, 1, 1);
        radio.run(slot - 4);
        DUE.is("needs before slot " + slot, radio.state(1, NEEDS), 3);
        DUE.is("2 sent", radio.sent(2, 3), 1);
        radio.run(1);
        DUE.is("needs when what was received ended with " + end, radio.state(1, NEEDS), want);
    }

    /** "If it is not busy": 1 sends ACKNOWLEDGE in 6 and 7 and is idle from 8 on. */
    private static void busyWhenItSends() {
        SlotRadio radio = oneFrom0To1();
        radio.run(6);
        DUE.states("idle of 1", radio, 1, IDLE, 0, 0, 1, 2);
        SlotRadio sender = oneFrom0To1();
        DUE.states("idle of 0, that sends in 3", sender, 0, IDLE, 1, 2, 3, 0);
    }

    /** 2 hears DATA in 3 and 4, of which it loses the head, so that it is not silent; and ACKNOWLEDGE in 6 and 7. */
    private static void busyWhenItHears() {
        SlotRadio radio = oneFrom0To1();
        radio.noise(2, 3, 1);
        DUE.states("idle of 2", radio, 2, IDLE, 1, 2, 3, 0, 0, 1, 0, 0, 1, 2);
        SlotRadio deaf = oneFrom0To1();
        deaf.hear(2, 0, false);
        deaf.hear(2, 1, false);
        DUE.states("idle of who hears none", deaf, 2, IDLE, 1, 2, 3, 4, 5, 6, 7, 8, 9);
    }

    /** "waits for nothing": 0 sends in 3 and 4, waits in 5, 6 and 7, and fails in 8, in which it waits no more. */
    private static void waitsForNothing() {
        SlotRadio radio = oneFrom0To1();
        radio.hear(1, 0, false);
        DUE.states("idle of 0", radio, 0, IDLE, 1, 2, 3, 0, 0, 0, 0, 0, 1, 2, 3, 0);
    }

    /** "has none due": ANSWER of 1 in 5, DATA of 0 in 8, ACKNOWLEDGE of 1 in 11; in 8 station 1 is idle. */
    private static void hasNoneDue() {
        SlotRadio radio = oneFrom0To1();
        radio.threshold(0);
        DUE.states("idle of 0", radio, 0, IDLE, 1, 2, 3, 0, 0, 0, 0, 0, 0, 0, 0, 0, 0, 0, 1, 2);
        SlotRadio again = oneFrom0To1();
        again.threshold(0);
        DUE.states("idle of 1", again, 1, IDLE, 1, 2, 3, 0, 0, 0, 0, 0, 1, 0, 0, 0, 0, 0, 1, 2);
    }

    /** "is silent until t at most": by ASK in 3 and 4 until 14, though it hears nothing from 5 on. */
    private static void silentUntilTAtMost() {
        SlotRadio radio = oneFrom0To1();
        radio.threshold(0);
        radio.run(5);
        radio.hear(2, 0, false);
        radio.hear(2, 1, false);
        DUE.states("idle of 2", radio, 2, IDLE, 0, 0, 0, 0, 0, 0, 0, 0, 0, 1, 2, 3);
    }

    /** "if that is more than it needs .. the count is one less": not with 3 slots, with 4; so until it is 0. */
    private static void moreThanItNeeds() {
        SlotRadio radio = new SlotRadio(2);
        radio.coin(3);
        radio.offer(0, 1, 1);
        DUE.states("count", radio, 0, COUNT, 3, 3, 3, 2, 1, 0);
        DUE.is("not begun", radio.sent(0, 3), 0);
        radio.run(1);
        DUE.is("begun", radio.sent(0, 3), 1);
        DUE.is("the count stays", radio.state(0, COUNT), 0);
    }

    /** It needs 6: DATA in 3 and 4 is lost at 1, whose idle slots are 5, 6, ..; 0 fails in 8 and counts 7 slots. */
    private static void moreThanItNeedsBehindALostFrame() {
        SlotRadio radio = new SlotRadio(2);
        radio.coin(0);
        radio.coin(3);
        radio.coin(7);
        radio.offer(0, 1, 1);
        radio.offer(1, 0, 1);
        radio.noise(1, 3, 1);
        radio.run(3);
        DUE.states("count", radio, 1, COUNT, 3, 3, 3, 3, 3, 3, 3, 3, 2, 1, 0, 0);
        DUE.is("begun in 14", radio.sent(1, 3), 1);
    }

    /** "and its count above 0": it is not less than 0, however long it was idle. */
    private static void countAboveZero() {
        SlotRadio radio = new SlotRadio(2);
        DUE.states("count of who keeps none", radio, 0, COUNT, 0, 0, 0, 0, 0, 0);
        radio.run(2000);
        DUE.is("count", radio.state(0, COUNT), 0);
        DUE.is("idle", radio.state(0, IDLE), 2006);
    }

    private static SlotRadio oneFrom0To1() {
        SlotRadio radio = new SlotRadio(3);
        radio.offer(0, 1, 1);
        return radio;
    }
}
