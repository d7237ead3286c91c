/** Promise 4: from which length of DATA on a station asks. */
public final class ThresholdTest {
    private static final Due DUE = new Due("ThresholdTest");

    public static void main(String[] args) {
        answers();
        asksFrom(20, 19, 8, 8, 2);
        asksFrom(5, 5, 4);
        asksFrom(6, 5, 4);
        asksFrom(0, 2, 1);
        asksFrom(2, 2, 1);
        asksFrom(33, 33, 8, 8, 8, 8);
        asksFrom(34, 33, 8, 8, 8, 8);
        asksFrom(100, 33, 8, 8, 8, 8);
        atFirst();
        whenItBegins();
        DUE.end();
    }

    private static void answers() {
        SlotRadio radio = new SlotRadio(2);
        DUE.is("at first", radio.threshold(0), 20);
        DUE.is("0 was told", radio.threshold(100), 0);
        DUE.is("-1", radio.threshold(-1), SlotRadio.OUTSIDE);
        DUE.is("101", radio.threshold(101), SlotRadio.OUTSIDE);
        DUE.is("MIN", radio.threshold(Integer.MIN_VALUE), SlotRadio.OUTSIDE);
        DUE.is("MAX", radio.threshold(Integer.MAX_VALUE), SlotRadio.OUTSIDE);
        DUE.is("what was refused is not told", radio.threshold(1), 100);
    }

    private static void asksFrom(int threshold, int dataSlots, int... payloads) {
        SlotRadio radio = new SlotRadio(2);
        radio.threshold(threshold);
        for (int slots : payloads) {
            radio.offer(0, 1, slots);
        }
        radio.run(4);
        boolean asks = dataSlots >= threshold;
        DUE.is("asks for " + dataSlots + " from " + threshold + " on", radio.state(0, 4), asks ? 1 : 3);
        DUE.is("sent ASK", radio.sent(0, 1), asks ? 1 : 0);
        DUE.is("sent DATA", radio.sent(0, 3), asks ? 0 : 1);
    }

    private static void atFirst() {
        for (int last = 2; last <= 3; last++) {
            SlotRadio radio = new SlotRadio(2);
            radio.offer(0, 1, 8);
            radio.offer(0, 1, 8);
            radio.offer(0, 1, last);
            radio.run(4);
            DUE.is("the first threshold with " + (17 + last), radio.state(0, 4), last == 3 ? 1 : 3);
        }
    }

    /** The threshold counts in the slot in which the attempt begins. */
    private static void whenItBegins() {
        SlotRadio radio = new SlotRadio(2);
        radio.offer(0, 1, 1);
        radio.run(3);
        radio.threshold(2);
        radio.run(1);
        DUE.is("told just before", radio.state(0, 4), 1);
        radio.threshold(100);
        radio.run(2);
        DUE.is("told after it", radio.state(1, 4), 0);
        radio.run(4);
        DUE.is("DATA follows the answer", radio.state(0, 4), 3);
    }
}
