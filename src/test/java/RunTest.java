/** Promise 7: what run answers and takes, and how attempts begin, are asked for, and answered. */
public final class RunTest {
    private static final Due DUE = new Due("RunTest");

    public static void main(String[] args) {
        answers();
        oneRunOrMany();
        begins();
        rowsOfPayloads();
        asked();
        dataWithoutAsking();
        DUE.end();
    }

    private static void answers() {
        SlotRadio radio = new SlotRadio(2);
        radio.offer(0, 1, 1);
        radio.offer(0, 1, 1);
        DUE.is("run(5)", radio.run(5), 0);
        DUE.is("two are handed over", radio.run(1), 2);
        DUE.is("run(2)", radio.run(2), 0);
        DUE.is("two are acknowledged", radio.run(1), 2);
        DUE.is("run(2000)", radio.run(2000), 0);
        DUE.is("now", radio.now(), 2009);
    }

    private static void oneRunOrMany() {
        SlotRadio one = new SlotRadio(3);
        SlotRadio many = new SlotRadio(3);
        for (int i = 0; i < 10; i++) {
            one.offer(i % 3, (i + 1) % 3, 1 + i % 8);
            many.offer(i % 3, (i + 1) % 3, 1 + i % 8);
            one.coin(3 * i);
            many.coin(3 * i);
        }
        int sum = 0;
        for (int i = 0; i < 400; i++) {
            sum += many.run(1);
        }
        DUE.is("events of one run and of many", one.run(400), sum);
        for (int i = 0; i < sum; i++) {
            DUE.is("slot of event " + i, one.event(i, 2), many.event(i, 2));
        }
    }

    /** Idle for 3 slots a station begins with count 0; each slot more takes one off the count. */
    private static void begins() {
        for (int count = 0; count <= 3; count++) {
            SlotRadio radio = new SlotRadio(2);
            radio.coin(count);
            radio.offer(0, 1, 1);
            radio.run(3 + count);
            DUE.is("not yet with count " + count, radio.sent(0, 3), 0);
            radio.run(1);
            DUE.is("in slot " + (3 + count), radio.sent(0, 3), 1);
        }
        SlotRadio late = new SlotRadio(2);
        late.run(10);
        late.offer(0, 1, 1);
        late.run(1);
        DUE.is("at once when it was idle for long", late.state(0, 4), 3);
        SlotRadio counting = new SlotRadio(2);
        counting.run(10);
        counting.coin(3);
        counting.offer(0, 1, 1);
        DUE.states("counting", counting, 0, 1, 2, 1, 0, 0);
        DUE.is("begun behind the count", counting.sent(0, 3), 1);
    }

    /** Four at most, right behind one another, for one station. */
    private static void rowsOfPayloads() {
        SlotRadio four = new SlotRadio(2);
        for (int i = 0; i < 6; i++) {
            four.offer(0, 1, 1);
        }
        four.run(30);
        DUE.events("four, then two", four, new int[][] {
            {1, 1, 7}, {2, 1, 7}, {3, 1, 7}, {4, 1, 7}, {1, 3, 10}, {2, 3, 10}, {3, 3, 10}, {4, 3, 10},
            {5, 1, 16}, {6, 1, 16}, {5, 3, 19}, {6, 3, 19}});
        SlotRadio mixed = new SlotRadio(3);
        mixed.offer(0, 1, 1);
        mixed.offer(0, 1, 1);
        mixed.offer(0, 2, 1);
        mixed.offer(0, 1, 1);
        mixed.run(40);
        DUE.events("two, one, one", mixed, new int[][] {
            {1, 1, 5}, {2, 1, 5}, {1, 3, 8}, {2, 3, 8}, {3, 1, 13}, {3, 3, 16}, {4, 1, 21}, {4, 3, 24}});
        SlotRadio late = new SlotRadio(2);
        late.threshold(0);
        late.offer(0, 1, 1);
        late.run(4);
        late.offer(0, 1, 1);
        late.run(10);
        DUE.events("what comes behind the ASK is not in the row", late, new int[][] {{1, 1, 10}, {1, 3, 13}});
        DUE.is("it is kept", late.state(0, 7), 1);
    }

    /** ASK 3 4, ANSWER 6 7, DATA 9 10, ACKNOWLEDGE 12 13. In slot 8 the asked one waits for nothing. */
    private static void asked() {
        SlotRadio radio = new SlotRadio(3);
        radio.threshold(0);
        radio.offer(0, 1, 1);
        int[] asker = {0, 0, 0, 1, 0, 0, 0, 0, 0, 3, 0, 0, 0, 0, 0};
        int[] asked = {0, 0, 0, 0, 0, 0, 2, 0, 0, 0, 0, 0, 4, 0, 0};
        int[] silent = {0, 0, 0, 0, 9, 8, 7, 6, 5, 4, 3, 2, 1, 0, 0};
        int[] idle = {1, 2, 3, 0, 0, 0, 0, 0, 0, 0, 0, 0, 0, 0, 1};
        for (int slot = 0; slot < asker.length; slot++) {
            radio.run(1);
            DUE.is("asker sends behind " + slot, radio.state(0, 4), asker[slot]);
            DUE.is("asked sends behind " + slot, radio.state(1, 4), asked[slot]);
            DUE.is("the third is silent behind " + slot, radio.state(2, 3), silent[slot]);
            DUE.is("asker idle behind " + slot, radio.state(0, 5), idle[slot]);
            DUE.is("asked idle behind " + slot, radio.state(1, 5), slot == 8 ? 1 : idle[slot]);
            DUE.is("the third idle behind " + slot, radio.state(2, 5), idle[slot]);
        }
        DUE.events("asked", radio, new int[][] {{1, 1, 10}, {1, 3, 13}});
        DUE.is("the asker is not silent", radio.state(0, 3), 0);
        DUE.is("the asked is not silent", radio.state(1, 3), 0);
    }

    /** DATA 3 .. 11, ACKNOWLEDGE 13 14: who only listens is silent behind DATA. */
    private static void dataWithoutAsking() {
        SlotRadio radio = new SlotRadio(3);
        radio.offer(0, 1, 8);
        radio.run(3);
        DUE.states("silent", radio, 2, 3, 0, 0, 0, 0, 0, 0, 0, 0, 3, 2, 1, 0, 0);
        DUE.is("idle behind it", radio.state(2, 5), 1);
        DUE.events("without asking", radio, new int[][] {{1, 1, 11}, {1, 3, 14}});
    }
}
