/** Promise 4: the threshold that was before, and when a new one counts. */
public final class ThresholdTest {
    private static final Due DUE = new Due("ThresholdTest");

    public static void main(String[] args) {
        answers();
        whenItBegins();
        DUE.end();
    }

    private static void answers() {
        SlotRadio radio = new SlotRadio(2);
        DUE.is("at first", radio.threshold(0), 20);
        DUE.is("0 was told", radio.threshold(100), 0);
        DUE.is("100 was told", radio.threshold(20), 100);
    }

    /** The threshold counts in the slot in which the attempt begins. */
    private static void whenItBegins() {
        SlotRadio radio = new SlotRadio(2);
        radio.offer(0, 1, 1);
        radio.run(3);
        radio.threshold(2);
        radio.run(1);
        DUE.is("told just before", radio.state(0, 4), 1);
        radio.threshold(100);
        radio.run(2);
        DUE.is("told after it", radio.state(1, 4), 0);
        radio.run(4);
        DUE.is("DATA follows the answer", radio.state(0, 4), 3);
    }
}
