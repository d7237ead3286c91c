/** Promise 3: coins are told, and drawn once in their order. */
public final class CoinTest {
    private static final Due DUE = new Due("CoinTest");

    public static void main(String[] args) {
        answers();
        drawnInTheirOrder();
        modulo();
        drawnByFailures();
        DUE.end();
    }

    private static void answers() {
        SlotRadio radio = new SlotRadio(2);
        DUE.is("coin(0)", radio.coin(0), 1);
        DUE.is("coin(MAX)", radio.coin(Integer.MAX_VALUE), 2);
        DUE.is("coin(5)", radio.coin(5), 3);
    }

    private static void drawnInTheirOrder() {
        SlotRadio radio = new SlotRadio(4);
        radio.coin(1);
        radio.coin(2);
        radio.coin(3);
        radio.offer(2, 0, 1);
        DUE.is("one was drawn", radio.coin(2), 3);
        radio.offer(0, 1, 1);
        radio.offer(0, 1, 1);
        DUE.is("only who kept none draws", radio.coin(1), 3);
        radio.offer(1, 0, 1);
        DUE.is("the first drawn", radio.state(2, 1), 1);
        DUE.is("the second drawn", radio.state(0, 1), 2);
        DUE.is("the third drawn", radio.state(1, 1), 3);
        radio.offer(3, 0, 1);
        DUE.is("the fourth drawn", radio.state(3, 1), 2);
        DUE.is("what is left", radio.coin(0), 2);
    }

    private static void modulo() {
        int[] coins = {4, 7, 13, Integer.MAX_VALUE};
        int[] counts = {0, 3, 1, 3};
        for (int i = 0; i < coins.length; i++) {
            SlotRadio radio = new SlotRadio(2);
            radio.coin(coins[i]);
            radio.offer(1, 0, 1);
            DUE.is("drawn from coin " + coins[i], radio.state(1, 1), counts[i]);
        }
        SlotRadio none = new SlotRadio(2);
        none.offer(1, 0, 1);
        DUE.is("drawn when there is none", none.state(1, 1), 0);
        DUE.is("and none is owed", none.coin(3), 1);
    }

    /** The width grows before the count is drawn: 6 of 0 .. 7, 14 of 0 .. 15. */
    private static void drawnByFailures() {
        SlotRadio radio = new SlotRadio(2);
        radio.coin(0);
        radio.coin(6);
        radio.coin(30);
        radio.hear(1, 0, false);
        radio.offer(0, 1, 1);
        radio.run(9);
        DUE.is("after a failure", radio.state(0, 1), 6);
        radio.run(14);
        DUE.is("after two", radio.state(0, 1), 14);
        DUE.is("all are drawn", radio.coin(0), 1);
    }
}
