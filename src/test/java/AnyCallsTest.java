import java.util.Random;

/** Any arguments in any state: no call throws, a refused one changes nothing, payloads go once and in order. */
public final class AnyCallsTest {
    private static final Due DUE = new Due("AnyCallsTest");
    private static final int[] NUMBERS = {Integer.MIN_VALUE, -2, -1, 0, 1, 2, 3, 4, 5, 6, 7, 8, 9, 10, 40, 100, 101,
        699, 700, 1000, 1001, 2000, 2001, 1000000, 1000001, Integer.MAX_VALUE};

    private final Random random;
    private final SlotRadio radio;
    /** For each payload its two stations, as one number. */
    private final int[] pair = new int[301];

    private AnyCallsTest(int seed) {
        random = new Random(seed);
        radio = new SlotRadio(any());
    }

    public static void main(String[] args) {
        for (int seed = 0; seed < 200; seed++) {
            new AnyCallsTest(seed).go();
        }
        DUE.end();
    }

    private void go() {
        for (int i = 0; i < 500; i++) {
            String before = shown();
            int answer = call();
            if (answer == SlotRadio.UNKNOWN || answer == SlotRadio.OUTSIDE || answer == SlotRadio.ROOM) {
                DUE.is("a refusal changes what is shown", shown().equals(before) ? 0 : 1, 0);
            }
        }
        onceAndInOrder();
    }

    private int any() {
        return random.nextBoolean() ? random.nextInt(6) : NUMBERS[random.nextInt(NUMBERS.length)];
    }

    private int call() {
        switch (random.nextInt(10)) {
            case 0:
                return radio.hear(any(), any(), random.nextInt(4) > 0);
            case 1:
                return radio.coin(any());
            case 2:
                return radio.threshold(any());
            case 3:
                return radio.noise(any(), radio.now() + any(), any());
            case 4:
                return radio.run(any());
            case 5:
                return radio.event(any(), any());
            case 6:
                return radio.state(any(), any());
            case 7:
                return radio.sent(any(), any());
            default:
                return offer(any(), any(), any());
        }
    }

    private int offer(int from, int to, int slots) {
        int payload = radio.offer(from, to, slots);
        if (payload > 0) {
            pair[payload] = 6 * from + to;
        }
        return payload;
    }

    private String shown() {
        StringBuilder all = new StringBuilder();
        all.append(radio.now());
        for (int station = 0; station < 6; station++) {
            for (int what = 0; what < 8; what++) {
                all.append(' ').append(radio.state(station, what));
            }
            for (int kind = 1; kind <= 4; kind++) {
                all.append(' ').append(radio.sent(station, kind));
            }
        }
        return all.toString();
    }

    private void onceAndInOrder() {
        int[][] seen = new int[301][4];
        int[] last = new int[36];
        for (int i = 0; radio.event(i, 0) != SlotRadio.NONE; i++) {
            int payload = radio.event(i, 0);
            int kind = radio.event(i, 1);
            seen[payload][kind]++;
            DUE.is("payload " + payload + " has kind " + kind + " so often", seen[payload][kind], 1);
            DUE.is("payload " + payload + " leaves twice", seen[payload][2] + seen[payload][3] > 1 ? 1 : 0, 0);
            if (kind == 1) {
                DUE.is("payload " + payload + " comes too late", payload > last[pair[payload]] ? 0 : 1, 0);
                last[pair[payload]] = payload;
            }
        }
    }
}
