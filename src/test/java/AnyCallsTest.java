import java.util.ArrayList;
import java.util.List;
import java.util.Random;

/**
 * Any arguments in any state: no call throws; payloads go once and in order; and an object that got only the calls that
 * were not refused answers in the end as one that got all. The seeds are fixed.
 */
public final class AnyCallsTest {
    private static final Due DUE = new Due("AnyCallsTest");
    private static final int[] NUMBERS = {Integer.MIN_VALUE, -2, -1, 0, 1, 2, 3, 4, 5, 6, 7, 8, 9, 10, 40, 100, 101,
        699, 700, 1000, 1001, 2000, 2001, 1000000, 1000001, Integer.MAX_VALUE};
    /** With those that look at the end some 480 calls: an object is used for 512 at most. */
    private static final int CALLS = 250;

    private final Random random;
    private final SlotRadio all;
    private final SlotRadio accepted;
    /** For each payload its two stations, as one number. */
    private final int[] pair = new int[301];

    private AnyCallsTest(int seed) {
        random = new Random(seed);
        int stations = any();
        all = new SlotRadio(stations);
        accepted = new SlotRadio(stations);
    }

    public static void main(String[] args) {
        for (int seed = 0; seed < 1000; seed++) {
            new AnyCallsTest(seed).go();
        }
        DUE.end();
    }

    private void go() {
        for (int i = 0; i < CALLS; i++) {
            int which = random.nextInt(10);
            int a = any();
            int b = any();
            int c = any();
            int answer = call(all, which, a, b, c);
            if (answer != SlotRadio.UNKNOWN && answer != SlotRadio.OUTSIDE && answer != SlotRadio.ROOM) {
                DUE.is("without refused calls: " + which, call(accepted, which, a, b, c), answer);
                notePair(which, answer, a, b);
            }
        }
        DUE.is("refused calls left a trace", shown(all).equals(shown(accepted)) ? 0 : 1, 0);
        onceAndInOrder();
    }

    private int any() {
        return random.nextBoolean() ? random.nextInt(6) : NUMBERS[random.nextInt(NUMBERS.length)];
    }

    private int call(SlotRadio radio, int which, int a, int b, int c) {
        switch (which) {
            case 0:
                return radio.hear(a, b, c > 1);
            case 1:
                return radio.coin(a);
            case 2:
                return radio.threshold(a);
            case 3:
                return radio.noise(a, (long) b * b, c);
            case 4:
                return radio.run(a);
            case 5:
                return radio.event(a, b);
            case 6:
                return radio.state(a, b);
            case 7:
                return radio.sent(a, b);
            default:
                return radio.offer(a, b, c);
        }
    }

    private void notePair(int which, int answer, int from, int to) {
        if (which >= 8) {
            pair[answer] = 6 * from + to;
        }
    }

    private static List<Long> shown(SlotRadio radio) {
        List<Long> shown = new ArrayList<>();
        shown.add(radio.now());
        for (int station = 0; station < 6; station++) {
            for (int what = 0; what < 8; what++) {
                shown.add((long) radio.state(station, what));
            }
            for (int kind = 1; kind <= 4; kind++) {
                shown.add((long) radio.sent(station, kind));
            }
        }
        return shown;
    }

    private void onceAndInOrder() {
        int[][] seen = new int[301][4];
        int[] last = new int[36];
        for (int i = 0; i < 80 && all.event(i, 0) != SlotRadio.NONE; i++) {
            int payload = accepted.event(i, 0);
            int kind = all.event(i, 1);
            seen[payload][kind]++;
            DUE.is("payload " + payload + " has kind " + kind + " so often", seen[payload][kind], 1);
            DUE.is("payload " + payload + " leaves twice", seen[payload][2] + seen[payload][3] > 1 ? 1 : 0, 0);
            if (kind == 1) {
                DUE.is("payload " + payload + " comes too late", payload > last[pair[payload]] ? 0 : 1, 0);
                last[pair[payload]] = payload;
            }
        }
    }
}
