/** Promise 2: who hears whom. */
public final class HearTest {
    private static final Due DUE = new Due("HearTest");

    public static void main(String[] args) {
        answers();
        oneWay();
        deafForOneSlot();
        deafAtTheEnd();
        DUE.end();
    }

    private static void answers() {
        SlotRadio radio = new SlotRadio(3);
        DUE.is("it was so", radio.hear(0, 1, true), 0);
        DUE.is("off", radio.hear(0, 1, false), 1);
        DUE.is("off again", radio.hear(0, 1, false), 0);
        DUE.is("the other way is as it was", radio.hear(1, 0, true), 0);
        DUE.is("another one is as it was", radio.hear(0, 2, true), 0);
        DUE.is("on", radio.hear(0, 1, true), 1);
        DUE.is("on again", radio.hear(0, 1, true), 0);
    }

    /** DATA in slots 3 and 4 goes through, ACKNOWLEDGE in 6 and 7 is not heard. */
    private static void oneWay() {
        SlotRadio radio = new SlotRadio(2);
        radio.hear(0, 1, false);
        radio.offer(0, 1, 1);
        DUE.is("one way: run(9)", radio.run(9), 1);
        DUE.events("one way", radio, new int[][] {{1, 1, 4}});
        DUE.is("one way: tries", radio.state(0, 2), 1);
        radio = new SlotRadio(2);
        radio.hear(1, 0, false);
        radio.offer(0, 1, 1);
        DUE.is("the other way: run(9)", radio.run(9), 0);
        DUE.is("the other way: acknowledgements", radio.sent(1, 4), 0);
        DUE.is("the other way: it was idle", radio.state(1, 5), 9);
        DUE.is("the other way: tries", radio.state(0, 2), 1);
    }

    /** DATA has slots 3 .. 7: payload 1 has 4 and 5, payload 2 has 6 and 7. */
    private static void deafForOneSlot() {
        SlotRadio radio = new SlotRadio(2);
        radio.offer(0, 1, 2);
        radio.offer(0, 1, 2);
        radio.run(4);
        radio.hear(1, 0, false);
        radio.run(1);
        DUE.is("on again, within the frame", radio.hear(1, 0, true), 1);
        radio.run(6);
        DUE.events("deaf for one slot", radio, new int[][] {{2, 3, 10}});
    }

    /** Who does not hear the sender when the frame ends does not receive it. */
    private static void deafAtTheEnd() {
        SlotRadio radio = new SlotRadio(2);
        radio.offer(0, 1, 2);
        radio.offer(0, 1, 2);
        radio.run(7);
        radio.hear(1, 0, false);
        radio.run(1);
        radio.hear(1, 0, true);
        radio.run(4);
        DUE.events("deaf at the end", radio, new int[][] {});
        DUE.is("deaf at the end: acknowledgements", radio.sent(1, 4), 0);
        DUE.is("deaf at the end: tries", radio.state(0, 2), 1);
    }
}
