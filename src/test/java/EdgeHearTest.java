/** The boundaries of promise 2. */
public final class EdgeHearTest {
    private static final Due DUE = new Due("EdgeHearTest");
    private static final int[] NO_STATION = {-1, 3, Integer.MIN_VALUE, Integer.MAX_VALUE};

    public static void main(String[] args) {
        zeroIfItWasSo();
        unknownStation();
        unknownOther();
        unknownBoth();
        bothAreTheSame();
        fromNowOn();
        DUE.end();
    }

    /** "1; 0 if it was so", and "at first all do". */
    private static void zeroIfItWasSo() {
        SlotRadio radio = new SlotRadio(6);
        for (int station = 0; station < 6; station++) {
            for (int other = 0; other < 6; other++) {
                if (station != other) {
                    String pair = station + " and " + other;
                    DUE.is("on at first, " + pair, radio.hear(station, other, true), 0);
                    DUE.is("off, " + pair, radio.hear(station, other, false), 1);
                    DUE.is("off again, " + pair, radio.hear(station, other, false), 0);
                    DUE.is("on, " + pair, radio.hear(station, other, true), 1);
                    DUE.is("on again, " + pair, radio.hear(station, other, true), 0);
                }
            }
        }
    }

    private static void unknownStation() {
        for (int wrong : NO_STATION) {
            Twins.refused(DUE, "hear(" + wrong + ", 0, false)", SlotRadio.UNKNOWN, r -> r.hear(wrong, 0, false));
            Twins.refused(DUE, "hear(" + wrong + ", 2, true)", SlotRadio.UNKNOWN, r -> r.hear(wrong, 2, true));
        }
    }

    private static void unknownOther() {
        for (int wrong : NO_STATION) {
            Twins.refused(DUE, "hear(0, " + wrong + ", false)", SlotRadio.UNKNOWN, r -> r.hear(0, wrong, false));
            Twins.refused(DUE, "hear(2, " + wrong + ", true)", SlotRadio.UNKNOWN, r -> r.hear(2, wrong, true));
        }
    }

    /** UNKNOWN comes before OUTSIDE: the two are no stations, and the same. */
    private static void unknownBoth() {
        for (int wrong : NO_STATION) {
            Twins.refused(DUE, "hear(" + wrong + " twice)", SlotRadio.UNKNOWN, r -> r.hear(wrong, wrong, false));
        }
    }

    /** "OUTSIDE (both are the same)"; the next ones on each side are allowed. */
    private static void bothAreTheSame() {
        for (int same = 0; same < 3; same++) {
            int it = same;
            Twins.refused(DUE, "hear(" + it + " twice, false)", SlotRadio.OUTSIDE, r -> r.hear(it, it, false));
            Twins.refused(DUE, "hear(" + it + " twice, true)", SlotRadio.OUTSIDE, r -> r.hear(it, it, true));
        }
        SlotRadio radio = new SlotRadio(3);
        DUE.is("hear(1, 0, false)", radio.hear(1, 0, false), 1);
        DUE.is("hear(1, 2, false)", radio.hear(1, 2, false), 1);
    }

    /** "from now on": DATA in 3 .. 7, a slot for its head and for each of 4 payloads; deaf from slot 6 to slot 6. */
    private static void fromNowOn() {
        SlotRadio radio = new SlotRadio(2);
        for (int i = 0; i < 4; i++) {
            radio.offer(0, 1, 1);
        }
        radio.run(6);
        radio.hear(1, 0, false);
        radio.run(1);
        radio.hear(1, 0, true);
        radio.run(4);
        DUE.events("slot 6 alone was not heard", radio, new int[][] {
            {1, 1, 7}, {2, 1, 7}, {1, 3, 10}, {2, 3, 10}, {4, 3, 10}});
    }
}
