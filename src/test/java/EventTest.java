/** Promise 8: what is told of events. */
public final class EventTest {
    private static final Due DUE = new Due("EventTest");

    public static void main(String[] args) {
        oneOfEachKind();
        noneSuch();
        allOf300Payloads();
        DUE.end();
    }

    /** Payload 1 is given up in 40, payload 2 goes from the other station. */
    private static void oneOfEachKind() {
        SlotRadio radio = new SlotRadio(2);
        radio.hear(1, 0, false);
        radio.offer(0, 1, 1);
        radio.run(50);
        radio.offer(1, 0, 2);
        radio.hear(1, 0, true);
        DUE.is("before slot 50", radio.event(1, 0), SlotRadio.NONE);
        radio.run(10);
        DUE.events("one of each kind", radio, new int[][] {{1, 2, 40}, {2, 1, 52}, {2, 3, 55}});
    }

    private static void noneSuch() {
        SlotRadio radio = new SlotRadio(2);
        DUE.is("before all", radio.event(0, 0), SlotRadio.NONE);
        radio.offer(0, 1, 1);
        radio.run(20);
        int[] events = {-1, 2, 699, 700, 701, Integer.MIN_VALUE, Integer.MAX_VALUE};
        for (int i : events) {
            for (int what = 0; what < 3; what++) {
                DUE.is("event(" + i + ", " + what + ")", radio.event(i, what), SlotRadio.NONE);
            }
        }
        int[] wrong = {-1, 3, Integer.MIN_VALUE, Integer.MAX_VALUE};
        for (int what : wrong) {
            DUE.is("event(0, " + what + ")", radio.event(0, what), SlotRadio.NONE);
            DUE.is("event(2, " + what + ")", radio.event(2, what), SlotRadio.NONE);
        }
    }

    /** Two events for each payload: 600 are the most that there can be, and all are told. */
    private static void allOf300Payloads() {
        SlotRadio radio = new SlotRadio(2);
        int events = 0;
        for (int i = 0; i < 300; i++) {
            radio.offer(0, 1, 1);
            if (i % 10 == 9) {
                events += radio.run(100);
            }
        }
        DUE.is("events of 300 payloads", events, 600);
        DUE.is("the last payload", radio.event(599, 0), 300);
        DUE.is("the last kind", radio.event(599, 1), 3);
        DUE.is("none behind it", radio.event(600, 0), SlotRadio.NONE);
        int handed = 0;
        for (int i = 0; i < 150; i++) {
            if (radio.event(i, 1) == 1) {
                handed++;
                DUE.is("payload handed over", radio.event(i, 0), handed);
            }
        }
    }
}
