/** Promise 8: what is told of events. */
public final class EventTest {
    private static final Due DUE = new Due("EventTest");

    public static void main(String[] args) {
        oneOfEachKind();
        DUE.end();
    }

    /** Payload 1 is given up in 40, payload 2 goes from the other station. */
    private static void oneOfEachKind() {
        SlotRadio radio = new SlotRadio(2);
        radio.hear(1, 0, false);
        radio.offer(0, 1, 1);
        radio.run(50);
        radio.offer(1, 0, 2);
        radio.hear(1, 0, true);
        DUE.is("before slot 50", radio.event(1, 0), SlotRadio.NONE);
        radio.run(10);
        DUE.events("one of each kind", radio, new int[][] {{1, 2, 40}, {2, 1, 52}, {2, 3, 55}});
    }
}
