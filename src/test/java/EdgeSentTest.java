/** The boundaries of promise 10. */
public final class EdgeSentTest {
    private static final Due DUE = new Due("EdgeSentTest");
    private static final int[] NO_STATION = {-1, 3, Integer.MIN_VALUE, Integer.MAX_VALUE};
    private static final int[] NO_KIND = {0, -1, 5, 6, Integer.MIN_VALUE, Integer.MAX_VALUE};

    public static void main(String[] args) {
        unknown();
        kindOutside();
        firstAndLastKind();
        fromTheFirstSlotOn();
        onceHoweverLong();
        DUE.end();
    }

    /** UNKNOWN, and before OUTSIDE. */
    private static void unknown() {
        for (int wrong : NO_STATION) {
            for (int kind = 0; kind <= 5; kind++) {
                int it = kind;
                Twins.refused(DUE, "sent(" + wrong + ", " + it + ")", SlotRadio.UNKNOWN, r -> r.sent(wrong, it));
            }
        }
    }

    /** "OUTSIDE (kind 1 .. 4)". */
    private static void kindOutside() {
        for (int wrong : NO_KIND) {
            for (int station = 0; station < 3; station += 2) {
                int it = station;
                Twins.refused(DUE, "sent(" + it + ", " + wrong + ")", SlotRadio.OUTSIDE, r -> r.sent(it, wrong));
            }
        }
    }

    /** One frame of each kind: 1 ASK and 3 DATA of station 0, 2 ANSWER and 4 ACKNOWLEDGE of station 1. */
    private static void firstAndLastKind() {
        SlotRadio radio = Twins.asked(14);
        for (int kind = 1; kind <= 4; kind++) {
            DUE.is("sent(0, " + kind + ")", radio.sent(0, kind), kind % 2);
            DUE.is("sent(1, " + kind + ")", radio.sent(1, kind), 1 - kind % 2);
            DUE.is("sent(2, " + kind + ")", radio.sent(2, kind), 0);
        }
    }

    /** "began to send": behind the first slot of a frame it counts, before it does not. */
    private static void fromTheFirstSlotOn() {
        int[][] rows = {{0, 1, 3}, {1, 2, 6}, {0, 3, 9}, {1, 4, 12}};
        for (int[] row : rows) {
            String frame = "sent(" + row[0] + ", " + row[1] + ")";
            DUE.is(frame + " before slot " + row[2], Twins.asked(row[2]).sent(row[0], row[1]), 0);
            DUE.is(frame + " behind slot " + row[2], Twins.asked(row[2] + 1).sent(row[0], row[1]), 1);
            DUE.is(frame + " behind the next slot", Twins.asked(row[2] + 2).sent(row[0], row[1]), 1);
        }
    }

    /** The longest DATA, in 3 .. 35: it is one frame in each of its slots and behind them. */
    private static void onceHoweverLong() {
        SlotRadio radio = new SlotRadio(2);
        radio.threshold(100);
        for (int i = 0; i < 4; i++) {
            radio.offer(0, 1, 8);
        }
        radio.run(3);
        for (int slot = 3; slot <= 37; slot++) {
            radio.run(1);
            DUE.is("sent(0, 3) behind slot " + slot, radio.sent(0, 3), 1);
        }
    }
}
