/** The boundaries of promise 6. */
public final class EdgeNoiseTest {
    private static final Due DUE = new Due("EdgeNoiseTest");
    private static final int[] NO_STATION = {-1, 3, Integer.MIN_VALUE, Integer.MAX_VALUE};
    private static final long MILLION = 1000000;

    public static void main(String[] args) {
        unknown();
        fromBelowNow();
        fromAboveAMillion();
        nOutside();
        lastAllowed();
        nowIsAMillion();
        fortyAtMost();
        theFortiethIsHeard();
        firstAndLastSlot();
        DUE.end();
    }

    /** UNKNOWN, and before OUTSIDE; in the full state of Twins before ROOM, too. */
    private static void unknown() {
        for (int wrong : NO_STATION) {
            Twins.refused(DUE, "noise at " + wrong, SlotRadio.UNKNOWN, r -> r.noise(wrong, r.now(), 1));
            Twins.refused(DUE, "noise at " + wrong + ", too early", SlotRadio.UNKNOWN, r -> r.noise(wrong, -1, 1));
            Twins.refused(DUE, "noise at " + wrong + ", of 0", SlotRadio.UNKNOWN, r -> r.noise(wrong, MILLION, 0));
        }
    }

    /** "OUTSIDE (from is below now": -1 when all is new. */
    private static void fromBelowNow() {
        Twins.refused(DUE, "noise from now - 1", SlotRadio.OUTSIDE, r -> r.noise(1, r.now() - 1, 1));
        Twins.refused(DUE, "noise from -1", SlotRadio.OUTSIDE, r -> r.noise(1, -1, 1000));
        Twins.refused(DUE, "noise from MIN", SlotRadio.OUTSIDE, r -> r.noise(1, Long.MIN_VALUE, 1));
        // As an int this would be now.
        Twins.refused(DUE, "noise from now - 2^32", SlotRadio.OUTSIDE, r -> r.noise(1, r.now() - (1L << 32), 1));
    }

    /** "or above 10^6". */
    private static void fromAboveAMillion() {
        Twins.refused(DUE, "noise from 10^6 + 1", SlotRadio.OUTSIDE, r -> r.noise(1, MILLION + 1, 1));
        Twins.refused(DUE, "noise from MAX", SlotRadio.OUTSIDE, r -> r.noise(1, Long.MAX_VALUE, 1000));
        Twins.refused(DUE, "noise from now + 2^32", SlotRadio.OUTSIDE, r -> r.noise(1, r.now() + (1L << 32), 1));
    }

    /** "n not 1 .. 1000)". */
    private static void nOutside() {
        int[] wrong = {0, -1, 1001, 1002, Integer.MIN_VALUE, Integer.MAX_VALUE};
        for (int n : wrong) {
            Twins.refused(DUE, "noise of " + n, SlotRadio.OUTSIDE, r -> r.noise(1, r.now(), n));
        }
    }

    private static void lastAllowed() {
        SlotRadio radio = new SlotRadio(3);
        DUE.is("from 0 when now is 0", radio.noise(0, 0, 1), 1);
        radio.run(10);
        DUE.is("from now", radio.noise(0, 10, 1), 2);
        DUE.is("from now, the longest", radio.noise(0, 10, 1000), 3);
        DUE.is("from 10^6 - 1", radio.noise(1, MILLION - 1, 1), 4);
        DUE.is("from 10^6", radio.noise(1, MILLION, 1), 5);
        DUE.is("from 10^6, the longest", radio.noise(2, MILLION, 1000), 6);
    }

    /** 500 runs of 2000: then 10^6 is now, still allowed, and has noise; one slot later nothing is allowed. */
    private static void nowIsAMillion() {
        SlotRadio radio = new SlotRadio(2);
        for (int i = 0; i < 500; i++) {
            radio.run(2000);
        }
        radio.offer(0, 1, 1);
        DUE.is("from 10^6 + 1", radio.noise(1, MILLION + 1, 1), SlotRadio.OUTSIDE);
        DUE.is("from 10^6 when it is now", radio.noise(1, MILLION, 1), 1);
        radio.run(1);
        DUE.is("from 10^6 when it is over", radio.noise(1, MILLION, 1), SlotRadio.OUTSIDE);
        DUE.is("from now, above 10^6", radio.noise(1, MILLION + 1, 1), SlotRadio.OUTSIDE);
        radio.run(3);
        DUE.is("the head of DATA in 10^6 was lost", radio.sent(0, 3) - radio.sent(1, 4), 1);
        DUE.is("and nothing was handed over", radio.event(0, 0), SlotRadio.NONE);
    }

    /** "ROOM (40)": at whatever station, and though rows are over. */
    private static void fortyAtMost() {
        SlotRadio radio = new SlotRadio(3);
        for (int i = 1; i <= 40; i++) {
            DUE.is("row " + i, radio.noise(i % 3, i, 1), i);
        }
        DUE.is("row 41", radio.noise(0, 50, 1), SlotRadio.ROOM);
        radio.run(2000);
        DUE.is("row 41 when all are over", radio.noise(0, 2000, 1), SlotRadio.ROOM);
        for (int station = 0; station < 3; station++) {
            int it = station;
            Twins.refusedIn(DUE, "40 rows", () -> Twins.noisy(40), "noise at " + it, SlotRadio.ROOM,
                    r -> r.noise(it, 0, 1000));
        }
    }

    /** Row 40 takes the head of DATA, in slot 3; the same row as the 41st is refused and takes nothing. */
    private static void theFortiethIsHeard() {
        for (int before = 39; before <= 40; before++) {
            SlotRadio radio = new SlotRadio(2);
            for (int i = 0; i < before; i++) {
                radio.noise(1, 100, 1);
            }
            DUE.is("row " + (before + 1), radio.noise(1, 3, 1), before == 39 ? 40 : SlotRadio.ROOM);
            radio.offer(0, 1, 1);
            DUE.is("events with row " + (before + 1), radio.run(8), before == 39 ? 0 : 2);
        }
    }

    /** "noise at a station in n slots from one on": the first, the last and those beside them; n is 1, 2, 999, 1000. */
    private static void firstAndLastSlot() {
        int[] lengths = {1, 2, 999, 1000};
        for (int n : lengths) {
            headIsGood("before the first of " + n, 20, n, 19, true);
            headIsGood("in the first of " + n, 20, n, 20, false);
            headIsGood("in the last of " + n, 20, n, 20 + n - 1, false);
            headIsGood("behind the last of " + n, 20, n, 20 + n, true);
        }
    }

    /** A station that was idle for long begins at once: the head of its DATA is in slot t. */
    private static void headIsGood(String when, int from, int n, int t, boolean want) {
        SlotRadio radio = new SlotRadio(2);
        radio.noise(1, from, n);
        radio.run(t);
        radio.offer(0, 1, 1);
        radio.run(3);
        DUE.is("DATA begun " + when, radio.sent(0, 3), 1);
        DUE.is("ACKNOWLEDGE begun " + when, radio.sent(1, 4), 0);
        radio.run(1);
        DUE.is("DATA received " + when, radio.sent(1, 4), want ? 1 : 0);
    }
}
