/** Promise 1: how all is at first. */
public final class NewObjectTest {
    private static final Due DUE = new Due("NewObjectTest");

    public static void main(String[] args) {
        atFirst();
        objectsAreApart();
        DUE.end();
    }

    private static void atFirst() {
        SlotRadio radio = new SlotRadio(6);
        int[] want = {3, 0, 0, 0, 0, 0, 3, 0};
        for (int station = 0; station < 6; station++) {
            for (int what = 0; what < want.length; what++) {
                DUE.is("new: state(" + station + ", " + what + ")", radio.state(station, what), want[what]);
            }
            for (int kind = 1; kind <= 4; kind++) {
                DUE.is("new: sent(" + station + ", " + kind + ")", radio.sent(station, kind), 0);
            }
            for (int other = 0; other < 6; other++) {
                if (other != station) {
                    DUE.is("new: hear(" + station + ", " + other + ")", radio.hear(station, other, true), 0);
                }
            }
        }
        DUE.is("new: now", radio.now(), 0);
        DUE.is("new: event(0, 0)", radio.event(0, 0), SlotRadio.NONE);
        DUE.is("new: threshold", radio.threshold(20), 20);
        DUE.is("new: coin", radio.coin(0), 1);
        DUE.is("new: noise", radio.noise(0, 0, 1), 1);
        DUE.is("new: offer", radio.offer(0, 1, 1), 1);
    }

    private static void objectsAreApart() {
        SlotRadio one = new SlotRadio(2);
        SlotRadio other = new SlotRadio(2);
        one.offer(0, 1, 1);
        one.coin(1);
        one.threshold(0);
        one.noise(0, 0, 1);
        one.hear(0, 1, false);
        one.run(20);
        DUE.is("apart: now", other.now(), 0);
        DUE.is("apart: offer", other.offer(0, 1, 1), 1);
        DUE.is("apart: coin", other.coin(1), 1);
        DUE.is("apart: threshold", other.threshold(0), 20);
        DUE.is("apart: noise", other.noise(0, 0, 1), 1);
        DUE.is("apart: hear", other.hear(0, 1, false), 1);
        DUE.is("apart: sent", other.sent(0, 1), 0);
    }
}
