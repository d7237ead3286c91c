/**
 * The boundaries of promise 8. "The first 700 are told": no run of calls comes to a 701st event, so that none can show
 * that it is not told. There are 300 payloads at most. Each is handed over once at most, and it leaves its sender once
 * at most, being given up or acknowledged: no more than 600 events. So much is reached below, and events 600, 699, 700
 * and 701 are none such.
 */
public final class EdgeEventTest {
    private static final Due DUE = new Due("EdgeEventTest");

    public static void main(String[] args) {
        noneBeforeTheFirst();
        noneBehindTheLast();
        noneSuchWhat();
        sixHundred();
        sixHundredOfPayloadsGivenUp();
        severalInOneSlot();
        nothingChanges();
        DUE.end();
    }

    private static void noneBeforeTheFirst() {
        SlotRadio radio = new SlotRadio(2);
        isNone(radio, 0, "when there was no event");
        radio.offer(0, 1, 1);
        radio.run(4);
        isNone(radio, 0, "one slot before the first event");
        radio.run(1);
        DUE.is("event(0, 0)", radio.event(0, 0), 1);
        isNone(radio, -1, "below 0");
        isNone(radio, Integer.MIN_VALUE, "far below 0");
    }

    private static void noneBehindTheLast() {
        SlotRadio radio = new SlotRadio(2);
        radio.offer(0, 1, 1);
        radio.run(5);
        isNone(radio, 1, "behind the only one");
        radio.run(3);
        DUE.events("two", radio, new int[][] {{1, 1, 4}, {1, 3, 7}});
        isNone(radio, 2, "behind the second");
        isNone(radio, Integer.MAX_VALUE, "far behind it");
    }

    /** "what = 0 .., 1 .., 2 ..; NONE when there is none such". */
    private static void noneSuchWhat() {
        SlotRadio radio = new SlotRadio(2);
        radio.offer(0, 1, 1);
        radio.run(8);
        int[] wrong = {-1, 3, Integer.MIN_VALUE, Integer.MAX_VALUE};
        for (int what : wrong) {
            for (int i = -1; i <= 2; i++) {
                DUE.is("event(" + i + ", " + what + ")", radio.event(i, what), SlotRadio.NONE);
            }
        }
    }

    private static void sixHundred() {
        SlotRadio radio = Twins.offered(300);
        DUE.is("payload of event 599", radio.event(599, 0), 300);
        DUE.is("kind of event 599", radio.event(599, 1), 3);
        DUE.is("slot of event 599 is over", radio.event(599, 2) < radio.now() ? 1 : 0, 1);
        DUE.is("kind of event 0", radio.event(0, 1), 1);
        DUE.is("payload of event 0", radio.event(0, 0), 1);
        int[] none = {600, 601, 699, 700, 701};
        for (int i : none) {
            isNone(radio, i, "of 600");
        }
        DUE.is("nothing more comes", radio.run(2000), 0);
    }

    /** 0 does not hear 1: each payload is handed over and, unacknowledged, given up. */
    private static void sixHundredOfPayloadsGivenUp() {
        SlotRadio radio = new SlotRadio(2);
        radio.hear(0, 1, false);
        int events = 0;
        for (int i = 1; i <= 300; i++) {
            radio.offer(0, 1, 1);
            if (i % 10 == 0) {
                events += radio.run(2000);
            }
        }
        DUE.is("events", events, 600);
        DUE.is("payload of event 599", radio.event(599, 0), 300);
        DUE.is("kind of event 599", radio.event(599, 1), 2);
        isNone(radio, 600, "of 600");
    }

    /**
     * "In the order in which they come": two pairs that do not hear each other, payload 1 of station 2 and payload 2 of
     * station 0. What comes in one slot comes in the order of the senders, or of the stations that fail.
     */
    private static void severalInOneSlot() {
        SlotRadio radio = twoPairs();
        radio.run(8);
        DUE.events("one slot", radio, new int[][] {{2, 1, 4}, {1, 1, 4}, {2, 3, 7}, {1, 3, 7}});
        SlotRadio failing = twoPairs();
        failing.hear(1, 0, false);
        failing.hear(3, 2, false);
        failing.run(41);
        DUE.events("one slot", failing, new int[][] {{2, 2, 40}, {1, 2, 40}});
    }

    private static SlotRadio twoPairs() {
        SlotRadio radio = new SlotRadio(4);
        for (int station = 0; station < 2; station++) {
            for (int other = 2; other < 4; other++) {
                radio.hear(station, other, false);
                radio.hear(other, station, false);
            }
        }
        radio.offer(2, 3, 1);
        radio.offer(0, 1, 1);
        return radio;
    }

    /** Event is never refused; that there is none such changes nothing, either. */
    private static void nothingChanges() {
        Twins.refused(DUE, "event(-1, 0)", SlotRadio.NONE, r -> r.event(-1, 0));
        Twins.refused(DUE, "event(600, 0)", SlotRadio.NONE, r -> r.event(600, 0));
        Twins.refused(DUE, "event(700, 0)", SlotRadio.NONE, r -> r.event(700, 0));
        Twins.refused(DUE, "event(0, -1)", SlotRadio.NONE, r -> r.event(0, -1));
        Twins.refused(DUE, "event(0, 3)", SlotRadio.NONE, r -> r.event(0, 3));
    }

    private static void isNone(SlotRadio radio, int i, String when) {
        for (int what = 0; what < 3; what++) {
            DUE.is("event(" + i + ", " + what + ") " + when, radio.event(i, what), SlotRadio.NONE);
        }
    }
}
