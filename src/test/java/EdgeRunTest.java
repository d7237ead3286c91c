/** The boundaries of promise 7 as a call: how many slots pass, and which events are counted. */
public final class EdgeRunTest {
    private static final Due DUE = new Due("EdgeRunTest");

    public static void main(String[] args) {
        outside();
        fewestAndMost();
        eventsOfTheFirstAndLastSlot();
        noEvents();
        DUE.end();
    }

    /** "OUTSIDE (n not 1 .. 2000)". */
    private static void outside() {
        int[] wrong = {0, -1, 2001, 2002, Integer.MIN_VALUE, Integer.MAX_VALUE};
        for (int n : wrong) {
            Twins.refused(DUE, "run(" + n + ")", SlotRadio.OUTSIDE, r -> r.run(n));
        }
    }

    private static void fewestAndMost() {
        int[] allowed = {1, 2, 1999, 2000};
        for (int n : allowed) {
            SlotRadio radio = new SlotRadio(2);
            DUE.is("run(" + n + ")", radio.run(n), 0);
            DUE.is("now behind run(" + n + ")", radio.now(), n);
            DUE.is("idle behind run(" + n + ")", radio.state(0, 5), n);
        }
    }

    /** "how many events there were in them": a payload is handed over in 4 and acknowledged in 7. */
    private static void eventsOfTheFirstAndLastSlot() {
        int[][] runs = {{4, 0}, {1, 1}, {2, 0}, {1, 1}, {2000, 0}};
        SlotRadio radio = new SlotRadio(2);
        radio.offer(0, 1, 1);
        for (int[] run : runs) {
            DUE.is("run(" + run[0] + ") at " + radio.now(), radio.run(run[0]), run[1]);
        }
        SlotRadio both = new SlotRadio(2);
        both.offer(0, 1, 1);
        both.run(4);
        DUE.is("first and last slot", both.run(4), 2);
        SlotRadio late = new SlotRadio(2);
        late.run(1995);
        late.offer(0, 1, 1);
        DUE.is("all of 2000 slots", late.run(2000), 2);
        DUE.is("events of earlier runs are not counted again", late.run(2000), 0);
    }

    /** Without a payload nothing is ever sent. */
    private static void noEvents() {
        SlotRadio radio = new SlotRadio(6);
        radio.coin(1);
        radio.noise(0, 0, 1000);
        DUE.is("run(2000) without a payload", radio.run(2000), 0);
        for (int station = 0; station < 6; station++) {
            for (int kind = 1; kind <= 4; kind++) {
                DUE.is("sent by " + station + " of kind " + kind, radio.sent(station, kind), 0);
            }
            DUE.is("needs of " + station, radio.state(station, 6), 3);
            DUE.is("count of " + station, radio.state(station, 1), 0);
        }
    }
}
