/** Promise 11: the slot that comes next. */
public final class NowTest {
    private static final Due DUE = new Due("NowTest");

    public static void main(String[] args) {
        SlotRadio radio = new SlotRadio(2);
        DUE.is("at first", radio.now(), 0);
        radio.run(1);
        DUE.is("behind one slot", radio.now(), 1);
        radio.run(2000);
        DUE.is("behind 2001", radio.now(), 2001);
        radio.offer(0, 1, 1);
        radio.coin(1);
        radio.hear(0, 1, true);
        radio.threshold(3);
        radio.noise(0, 2001, 1);
        DUE.is("other calls take no time", radio.now(), 2001);
        radio.run(1);
        DUE.is("the event of slot 2002 is to come", radio.event(0, 2), SlotRadio.NONE);
        radio.run(1);
        DUE.is("an event has the slot, not now", radio.event(0, 2), 2002);
        DUE.end();
    }
}
