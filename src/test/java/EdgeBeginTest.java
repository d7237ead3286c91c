/**
 * The boundaries of point 1 of a slot (promise 7). Four of its conditions can't be the only one that fails, so no run
 * of calls shows them here: a station that "sends nothing, waits for nothing, has none due" and "is silent until t at
 * most". An attempt needs a station that was idle for 3 slots or more, slot t - 1 among them; by point 4 it was then
 * not busy, waited for nothing, had none due and was silent until t - 1 at most, and nothing changes that before
 * point 1 of slot t. That who sends, waits, has a frame due or is silent is not idle is looked at in EdgeIdleTest.
 */
public final class EdgeBeginTest {
    private static final Due DUE = new Due("EdgeBeginTest");
    private static final int ASK = 1, ANSWER = 2, DATA = 3, ACKNOWLEDGE = 4;

    public static void main(String[] args) {
        waitsUntilT();
        repliesInTime();
        dueAtT();
        countIsZero();
        idleAsLongAsItNeeds();
        idleAsLongAsItNeedsBehindALostFrame();
        fourPayloadsAtMost();
        onlyThoseRightBehind();
        DUE.end();
    }

    /** "if it waits until t, its attempt has FAILED": ASK of 2 slots, DATA of 2, 3 and 33, not heard, begin in 3. */
    private static void waitsUntilT() {
        failsIn(8, 0, 1);
        failsIn(8, 100, 1);
        failsIn(9, 100, 2);
        failsIn(39, 100, 8, 8, 8, 8);
    }

    private static void failsIn(int slot, int threshold, int... payloads) {
        SlotRadio radio = new SlotRadio(2);
        radio.hear(1, 0, false);
        radio.threshold(threshold);
        for (int slots : payloads) {
            radio.offer(0, 1, slots);
        }
        radio.run(slot);
        DUE.is("tries before slot " + slot, radio.state(0, 2), 0);
        radio.run(1);
        DUE.is("tries behind slot " + slot, radio.state(0, 2), 1);
    }

    /** The reply ends with the last slot before the wait does: ANSWER with 7 and ACKNOWLEDGE with 13. */
    private static void repliesInTime() {
        SlotRadio radio = Twins.asked(8);
        DUE.states("tries", radio, 0, 2, 0, 0, 0, 0, 0, 0, 0);
        DUE.events("acknowledged in time", radio, new int[][] {{1, 1, 10}, {1, 3, 13}});
    }

    /** "if a frame is due at t, it begins to send it": two slots behind that with which the frame before ended. */
    private static void dueAtT() {
        beginsIn(1, ANSWER, 4 + 2);
        beginsIn(0, DATA, 7 + 2);
        beginsIn(1, ACKNOWLEDGE, 10 + 2);
    }

    private static void beginsIn(int station, int kind, int slot) {
        DUE.is("kind " + kind + " before slot " + slot, Twins.asked(slot).state(station, 4), 0);
        DUE.is("kind " + kind + " behind slot " + slot, Twins.asked(slot + 1).state(station, 4), kind);
    }

    /** "its count is 0": not with 1. Idle for long, it begins at once or when the count is down. */
    private static void countIsZero() {
        for (int count = 0; count <= 3; count++) {
            SlotRadio radio = new SlotRadio(2);
            radio.run(10);
            radio.coin(count);
            radio.offer(0, 1, 1);
            for (int slot = 0; slot < count; slot++) {
                DUE.is("count before slot " + slot, radio.state(0, 1), count - slot);
                radio.run(1);
                DUE.is("not begun with count " + (count - slot), radio.sent(0, DATA), 0);
            }
            DUE.is("count", radio.state(0, 1), 0);
            radio.run(1);
            DUE.is("begun with count 0", radio.sent(0, DATA), 1);
        }
    }

    /**
     * "it was idle for as many slots as it needs or more": 3 at first. It is offered a payload when it was idle for
     * n.
     */
    private static void idleAsLongAsItNeeds() {
        for (int n = 0; n <= 5; n++) {
            SlotRadio radio = new SlotRadio(2);
            if (n > 0) {
                radio.run(n);
            }
            radio.offer(0, 1, 1);
            DUE.is("idle", radio.state(0, 5), n);
            firstBeginsIn(radio, 0, Math.max(n, 3));
        }
    }

    /**
     * 6 behind a frame that was lost: DATA of 0 in 3 and 4, whose head has noise at 1. Station 1 is idle from 5 on, so
     * in slot t it was idle for t - 5. Station 0 fails in 8 and has a count of 7, so it does not disturb.
     */
    private static void idleAsLongAsItNeedsBehindALostFrame() {
        for (int t = 9; t <= 13; t++) {
            SlotRadio radio = new SlotRadio(2);
            radio.coin(0);
            radio.coin(7);
            radio.noise(1, 3, 1);
            radio.offer(0, 1, 1);
            radio.run(t);
            radio.offer(1, 0, 1);
            DUE.is("idle before slot " + t, radio.state(1, 5), t - 5);
            DUE.is("needs", radio.state(1, 6), 6);
            firstBeginsIn(radio, 1, Math.max(t, 11));
        }
    }

    private static void firstBeginsIn(SlotRadio radio, int station, int slot) {
        while (radio.now() < slot) {
            radio.run(1);
            DUE.is("begun before slot " + slot + ", at " + radio.now(), radio.sent(station, DATA), 0);
        }
        radio.run(1);
        DUE.is("begun in slot " + slot, radio.sent(station, DATA), 1);
        DUE.is("no ASK", radio.sent(station, ASK), 0);
    }

    /** "4 at most": DATA begins in 3, and of many payloads of one slot it ends with 3 + many, or with 7. */
    private static void fourPayloadsAtMost() {
        for (int many = 1; many <= 10; many++) {
            SlotRadio radio = Twins.kept(many);
            int inRow = Math.min(many, 4);
            radio.run(3 + inRow);
            DUE.is("before the row of " + many + " ends", radio.event(0, 0), SlotRadio.NONE);
            DUE.is("handed over of " + many, radio.run(1), inRow);
            DUE.is("the last of " + many, radio.event(inRow - 1, 0), inRow);
            radio.run(2);
            DUE.is("acknowledged of " + many, radio.run(1), inRow);
            DUE.is("kept of " + many, radio.state(0, 7), many - inRow);
        }
    }

    /** "those right behind it for the same station": a payload for another one ends the row. */
    private static void onlyThoseRightBehind() {
        rowIs(1, 1, 2, 1, 1, 1);
        rowIs(2, 1, 1, 2, 1, 1);
        rowIs(3, 1, 1, 1, 2, 1);
        rowIs(4, 1, 1, 1, 1, 2);
        rowIs(1, 2, 1);
        rowIs(1, 1);
    }

    private static void rowIs(int want, int... receivers) {
        SlotRadio radio = new SlotRadio(3);
        for (int to : receivers) {
            radio.offer(0, to, 1);
        }
        radio.run(3 + want);
        DUE.is("row of " + want + ", sent still", radio.event(0, 0), SlotRadio.NONE);
        DUE.is("row of " + want, radio.run(1), want);
        radio.run(3);
        DUE.is("left behind a row of " + want, radio.state(0, 7), receivers.length - want);
    }
}
