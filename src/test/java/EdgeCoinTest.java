/** The boundaries of promise 3, and of what the terms say of COINS and of a COUNT. */
public final class EdgeCoinTest {
    private static final Due DUE = new Due("EdgeCoinTest");
    private static final int[] WIDTHS = {3, 7, 15, 31, 63};

    public static void main(String[] args) {
        belowZero();
        zeroAndTheLargest();
        not401();
        the400thIsDrawnAndNoneBehindIt();
        drawnOnceThenZero();
        moduloWidthAndOne();
        DUE.end();
    }

    /** "OUTSIDE (below 0)", also when 400 were told. */
    private static void belowZero() {
        int[] wrong = {-1, -2, -400, Integer.MIN_VALUE};
        for (int v : wrong) {
            Twins.refused(DUE, "coin(" + v + ")", SlotRadio.OUTSIDE, r -> r.coin(v));
        }
    }

    private static void zeroAndTheLargest() {
        SlotRadio radio = new SlotRadio(2);
        DUE.is("coin(0)", radio.coin(0), 1);
        DUE.is("coin(MAX)", radio.coin(Integer.MAX_VALUE), 2);
        DUE.is("coin(-1) is not told", radio.coin(-1), SlotRadio.OUTSIDE);
        DUE.is("coin(1)", radio.coin(1), 3);
    }

    /** "not when 400 were told": the answer is as ever, how many were told and not drawn. */
    private static void not401() {
        SlotRadio radio = new SlotRadio(2);
        for (int i = 1; i <= 400; i++) {
            DUE.is("coin " + i, radio.coin(1), i);
        }
        DUE.is("coin 401", radio.coin(1), 400);
        DUE.is("coin 402", radio.coin(1), 400);
        radio.offer(0, 1, 1);
        DUE.is("400 were told, though one is drawn", radio.coin(1), 399);
        DUE.is("and it stays so", radio.coin(1), 399);
    }

    /**
     * Station 1 does not hear 0. Ten payloads of 0 draw 50 coins: one with the first, one with each of 5 failures for
     * each payload but the very last, behind which none is kept. 350 and 45 are drawn so; then 5 stations draw one
     * each.
     */
    private static void the400thIsDrawnAndNoneBehindIt() {
        SlotRadio radio = new SlotRadio(6);
        radio.hear(1, 0, false);
        for (int i = 1; i <= 395; i++) {
            radio.coin(0);
        }
        int[] last = {1, 2, 3, 1, 2};
        for (int v : last) {
            radio.coin(v);
        }
        DUE.is("coin 401", radio.coin(3), 400);
        for (int batch = 1; batch <= 8; batch++) {
            int many = batch < 8 ? 10 : 9;
            for (int i = 0; i < many; i++) {
                radio.offer(0, 1, 1);
            }
            DUE.is("given up in batch " + batch, radio.run(2000), many);
        }
        int[] drawers = {1, 2, 3, 4, 0};
        for (int i = 0; i < drawers.length; i++) {
            radio.offer(drawers[i], 5, 1);
            DUE.is("coin " + (396 + i), radio.state(drawers[i], 1), last[i]);
        }
        DUE.is("all were drawn", radio.coin(3), 0);
        radio.offer(5, 0, 1);
        DUE.is("no coin 401", radio.state(5, 1), 0);
    }

    /** "each is DRAWN once (0, when all were)". */
    private static void drawnOnceThenZero() {
        SlotRadio radio = new SlotRadio(4);
        radio.offer(0, 1, 1);
        DUE.is("when there was none", radio.state(0, 1), 0);
        DUE.is("none is owed", radio.coin(3), 1);
        radio.offer(1, 0, 1);
        DUE.is("the only one", radio.state(1, 1), 3);
        radio.offer(2, 0, 1);
        DUE.is("when all were drawn", radio.state(2, 1), 0);
        DUE.is("one more is not drawn yet", radio.coin(2), 1);
        radio.offer(3, 0, 1);
        DUE.is("one more", radio.state(3, 1), 2);
        DUE.is("all were drawn again", radio.coin(1), 1);
    }

    /** "the coin modulo WIDTH + 1, of 0 .. WIDTH": the width is 3 at first and larger behind each of 4 failures. */
    private static void moduloWidthAndOne() {
        for (int failures = 0; failures < WIDTHS.length; failures++) {
            int width = WIDTHS[failures];
            countIs(failures, 0, 0);
            countIs(failures, width - 1, width - 1);
            countIs(failures, width, width);
            countIs(failures, width + 1, 0);
            countIs(failures, width + 2, 1);
            countIs(failures, 2 * width + 1, width);
            countIs(failures, 2 * width + 2, 0);
            countIs(failures, Integer.MAX_VALUE, width);
        }
    }

    /** DATA begins in 3, 11, 19 and 27, and fails in 8, 16, 24 and 32. */
    private static void countIs(int failures, int coin, int want) {
        SlotRadio radio = new SlotRadio(2);
        radio.hear(1, 0, false);
        for (int i = 0; i < failures; i++) {
            radio.coin(0);
        }
        radio.coin(coin);
        radio.offer(0, 1, 1);
        if (failures > 0) {
            radio.run(8 * failures + 1);
        }
        DUE.is("width behind " + failures + " failures", radio.state(0, 0), WIDTHS[failures]);
        DUE.is("count of coin " + coin + " behind " + failures + " failures", radio.state(0, 1), want);
    }
}
