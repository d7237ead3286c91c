/** The boundaries of promise 4, and of "ASK, if D is at least the THRESHOLD (20 at first), otherwise DATA". */
public final class EdgeThresholdTest {
    private static final Due DUE = new Due("EdgeThresholdTest");
    private static final int ASK = 1, DATA = 3;

    public static void main(String[] args) {
        outside();
        lastAllowed();
        twentyAtFirst();
        atLeast();
        alwaysAsked();
        neverAsked();
        DUE.end();
    }

    /** "OUTSIDE (not 0 .. 100)". */
    private static void outside() {
        int[] wrong = {-1, -2, 101, 102, Integer.MIN_VALUE, Integer.MAX_VALUE};
        for (int slots : wrong) {
            Twins.refused(DUE, "threshold(" + slots + ")", SlotRadio.OUTSIDE, r -> r.threshold(slots));
        }
    }

    /** "That before": 0, 1, 99 and 100 are taken. */
    private static void lastAllowed() {
        SlotRadio radio = new SlotRadio(2);
        DUE.is("20 at first", radio.threshold(0), 20);
        DUE.is("behind 0", radio.threshold(100), 0);
        DUE.is("behind 100", radio.threshold(1), 100);
        DUE.is("behind 1", radio.threshold(99), 1);
        DUE.is("refused", radio.threshold(101), SlotRadio.OUTSIDE);
        DUE.is("behind 99 and a refused one", radio.threshold(99), 99);
    }

    /** DATA of 19, 20 and 21 slots: 1 for the head, 8, 8, and 2, 3 or 4. */
    private static void twentyAtFirst() {
        for (int last = 2; last <= 4; last++) {
            SlotRadio radio = new SlotRadio(2);
            radio.offer(0, 1, 8);
            radio.offer(0, 1, 8);
            radio.offer(0, 1, last);
            begins(radio, "20 at first, D " + (17 + last), last >= 3 ? ASK : DATA);
        }
    }

    /** DATA of 2, 5, 9, 20 and 33 slots: asked for with a threshold of as many, not with one more. */
    private static void atLeast() {
        int[][] rows = {{1}, {4}, {4, 4}, {8, 8, 3}, {8, 8, 8, 8}};
        for (int[] row : rows) {
            int slots = 1;
            for (int one : row) {
                slots += one;
            }
            begins(offered(slots - 1, row), "D one more than threshold " + (slots - 1), ASK);
            begins(offered(slots, row), "D as threshold " + slots, ASK);
            begins(offered(slots + 1, row), "D one less than threshold " + (slots + 1), DATA);
        }
    }

    /** The shortest DATA has 2 slots. */
    private static void alwaysAsked() {
        for (int threshold = 0; threshold <= 2; threshold++) {
            begins(offered(threshold, 1), "the shortest with threshold " + threshold, ASK);
        }
    }

    /** The longest DATA has 33 slots. */
    private static void neverAsked() {
        begins(offered(34, 8, 8, 8, 8), "the longest with threshold 34", DATA);
        begins(offered(100, 8, 8, 8, 8), "the longest with threshold 100", DATA);
        begins(offered(100, 8, 8, 8, 8, 8), "a fifth does not count", DATA);
        begins(offered(34, 8, 8, 8, 8, 8), "a fifth does not count", DATA);
    }

    private static SlotRadio offered(int threshold, int... row) {
        SlotRadio radio = new SlotRadio(2);
        radio.threshold(threshold);
        for (int slots : row) {
            radio.offer(0, 1, slots);
        }
        return radio;
    }

    private static void begins(SlotRadio radio, String when, int kind) {
        radio.run(4);
        DUE.is(when + ": sends", radio.state(0, 4), kind);
        DUE.is(when + ": sent ASK", radio.sent(0, ASK), kind == ASK ? 1 : 0);
        DUE.is(when + ": sent DATA", radio.sent(0, DATA), kind == DATA ? 1 : 0);
    }
}
