import java.util.ArrayList;
import java.util.List;
import java.util.function.Supplier;
import java.util.function.ToIntFunction;

/**
 * "A call that is refused changes nothing": of two objects with the same calls behind them one gets the refused call,
 * too, and from then on both must answer alike. All have 3 stations. No object gets more than 512 calls.
 */
final class Twins {
    /** How many slots more are compared: few, if many of the 512 calls were needed to come to the state. */
    private record State(String name, int slotsMore, Supplier<SlotRadio> maker) { }

    private static final int STATIONS = 3, MANY_SLOTS = 60, FEW_SLOTS = 8;
    private static final List<State> STATES = states();

    private Twins() { }

    /** In every state that is here, new, in the midst of things and full, the call is refused and leaves no trace. */
    static void refused(Due due, String call, int want, ToIntFunction<SlotRadio> on) {
        for (State state : STATES) {
            compare(due, state, call, want, on);
        }
    }

    /** As above, in one state alone; to come to it takes 380 calls at most. */
    static void refusedIn(Due due, String name, Supplier<SlotRadio> maker, String call, int want,
            ToIntFunction<SlotRadio> on) {
        compare(due, new State(name, FEW_SLOTS, maker), call, want, on);
    }

    private static void compare(Due due, State state, String call, int want, ToIntFunction<SlotRadio> on) {
        SlotRadio refusing = state.maker.get();
        SlotRadio untouched = state.maker.get();
        String when = state.name + ": " + call;
        due.is(when, on.applyAsInt(refusing), want);
        List<Long> got = answers(refusing, state.slotsMore);
        List<Long> same = answers(untouched, state.slotsMore);
        for (int i = 0; i < same.size(); i++) {
            due.is(when + " left a trace: call " + i + " behind it", got.get(i), same.get(i));
        }
    }

    private static List<Long> answers(SlotRadio radio, int slotsMore) {
        List<Long> all = new ArrayList<>();
        addShown(radio, all);
        addSettings(radio, all);
        for (int i = 0; i < slotsMore; i++) {
            all.add((long) radio.run(1));
        }
        addShown(radio, all);
        for (int i = 0; i < slotsMore / 2; i++) {
            for (int what = 0; what < 3; what++) {
                all.add((long) radio.event(i, what));
            }
        }
        return all;
    }

    private static void addShown(SlotRadio radio, List<Long> all) {
        all.add(radio.now());
        for (int station = 0; station < STATIONS; station++) {
            for (int what = 0; what <= 7; what++) {
                all.add((long) radio.state(station, what));
            }
            for (int kind = 1; kind <= 4; kind++) {
                all.add((long) radio.sent(station, kind));
            }
        }
    }

    /** What state() does not show is shown by what the next call answers: who heard whom, the threshold, how many. */
    private static void addSettings(SlotRadio radio, List<Long> all) {
        for (int station = 0; station < STATIONS; station++) {
            all.add((long) radio.hear(station, (station + 1) % STATIONS, true));
            all.add((long) radio.hear(station, (station + 2) % STATIONS, true));
            all.add((long) radio.offer(station, (station + 1) % STATIONS, 1));
        }
        all.add((long) radio.threshold(3));
        all.add((long) radio.coin(1));
        all.add((long) radio.noise(1, radio.now() + 5, 1));
    }

    private static List<State> states() {
        List<State> all = new ArrayList<>();
        all.add(new State("new", MANY_SLOTS, () -> new SlotRadio(STATIONS)));
        for (int slots = 1; slots <= 15; slots++) {
            int behind = slots;
            all.add(new State("asked, behind " + slots, MANY_SLOTS, () -> asked(behind)));
        }
        all.add(new State("failed twice", MANY_SLOTS, Twins::failedTwice));
        for (int less = 0; less <= 1; less++) {
            int missing = less;
            all.add(new State((10 - less) + " kept", MANY_SLOTS, () -> kept(10 - missing)));
            all.add(new State((40 - less) + " rows of noise", MANY_SLOTS, () -> noisy(40 - missing)));
            all.add(new State((300 - less) + " payloads", FEW_SLOTS, () -> offered(300 - missing)));
            all.add(new State((400 - less) + " coins", FEW_SLOTS, () -> coined(400 - missing)));
        }
        return all;
    }

    /** ASK 3 4, ANSWER 6 7, DATA 9 10, ACKNOWLEDGE 12 13; 2 keeps silent until 14, and then counts. */
    static SlotRadio asked(int slots) {
        SlotRadio radio = new SlotRadio(STATIONS);
        radio.threshold(0);
        radio.coin(0);
        radio.coin(3);
        radio.coin(2);
        radio.offer(0, 1, 1);
        radio.offer(2, 1, 2);
        radio.run(slots);
        return radio;
    }

    private static SlotRadio failedTwice() {
        SlotRadio radio = new SlotRadio(STATIONS);
        radio.coin(0);
        radio.coin(1);
        radio.hear(1, 0, false);
        radio.offer(0, 1, 1);
        radio.run(20);
        return radio;
    }

    /** A row that begins in slot 3. Coins are left, so that one that a refused call draws is missed. */
    static SlotRadio kept(int many) {
        SlotRadio radio = new SlotRadio(STATIONS);
        radio.coin(0);
        radio.coin(3);
        radio.coin(2);
        for (int i = 0; i < many; i++) {
            radio.offer(0, 1, 1);
        }
        return radio;
    }

    static SlotRadio noisy(int rows) {
        SlotRadio radio = new SlotRadio(STATIONS);
        radio.coin(3);
        for (int i = 0; i < rows; i++) {
            radio.noise(1, 2L * i, 1);
        }
        return radio;
    }

    /** Payloads from 0 to 1, of which none is left but those of the last 9 or fewer. Here, too, coins are left. */
    static SlotRadio offered(int many) {
        SlotRadio radio = new SlotRadio(STATIONS);
        for (int i = 1; i <= many; i++) {
            radio.offer(0, 1, 1);
            if (i % 10 == 0) {
                radio.run(100);
            }
        }
        radio.coin(3);
        radio.coin(2);
        return radio;
    }

    static SlotRadio coined(int many) {
        SlotRadio radio = new SlotRadio(STATIONS);
        for (int i = 0; i < many; i++) {
            radio.coin(i % 4);
        }
        return radio;
    }
}
