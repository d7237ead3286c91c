/** Promise 10: how many frames of a kind a station began to send. */
public final class SentTest {
    private static final Due DUE = new Due("SentTest");

    public static void main(String[] args) {
        whenTheyBegin();
        eachAttempt();
        DUE.end();
    }

    /** ASK 3 4, ANSWER 6 7, DATA 9 10, ACKNOWLEDGE 12 13: each counts from its first slot on. */
    private static void whenTheyBegin() {
        SlotRadio radio = new SlotRadio(3);
        radio.threshold(0);
        radio.offer(2, 0, 1);
        for (int slot = 0; slot < 20; slot++) {
            radio.run(1);
            DUE.is("ASK behind " + slot, radio.sent(2, 1), slot >= 3 ? 1 : 0);
            DUE.is("ANSWER behind " + slot, radio.sent(0, 2), slot >= 6 ? 1 : 0);
            DUE.is("DATA behind " + slot, radio.sent(2, 3), slot >= 9 ? 1 : 0);
            DUE.is("ACKNOWLEDGE behind " + slot, radio.sent(0, 4), slot >= 12 ? 1 : 0);
        }
        int[][] never = {{0, 1}, {0, 3}, {2, 2}, {2, 4}, {1, 1}, {1, 2}, {1, 3}, {1, 4}};
        for (int[] one : never) {
            DUE.is("sent(" + one[0] + ", " + one[1] + ")", radio.sent(one[0], one[1]), 0);
        }
    }

    private static void eachAttempt() {
        SlotRadio radio = new SlotRadio(2);
        radio.hear(1, 0, false);
        radio.offer(0, 1, 1);
        radio.run(12);
        DUE.is("two attempts", radio.sent(0, 3), 2);
        radio.run(100);
        DUE.is("five attempts", radio.sent(0, 3), 5);
        radio.threshold(0);
        radio.offer(0, 1, 1);
        radio.run(100);
        DUE.is("five ASKs", radio.sent(0, 1), 5);
        DUE.is("no DATA behind them", radio.sent(0, 3), 5);
    }
}
