import java.util.Random;

/** Promises 1 to 11 in runs that nobody chose: SlotRadio answers as PlainRadio does. The seeds are fixed. */
public final class ModelTest {
    private static final Due DUE = new Due("ModelTest");
    private static final int RUNS = 1500;

    private final Random random;
    private final String name;
    private final int many;
    private final SlotRadio radio;
    private final PlainRadio plain;

    private ModelTest(int seed) {
        random = new Random(seed);
        name = "run " + seed;
        many = 2 + random.nextInt(5);
        radio = new SlotRadio(many);
        plain = new PlainRadio(many);
    }

    public static void main(String[] args) {
        for (int seed = 0; seed < RUNS; seed++) {
            new ModelTest(seed).go();
        }
        DUE.end();
    }

    private void go() {
        boolean hidden = random.nextBoolean();
        for (int i = 0; i < many * many; i++) {
            if (hidden && random.nextInt(3) == 0) {
                hear();
            }
        }
        setThreshold();
        int steps = 20 + random.nextInt(60);
        for (int step = 0; step < steps; step++) {
            call(random.nextInt(20));
        }
        slots(300);
        compare();
        compareEvents();
    }

    private void call(int which) {
        if (which < 5) {
            offer();
        } else if (which < 7) {
            coin();
        } else if (which < 9) {
            noise();
        } else if (which < 11) {
            hear();
        } else if (which < 12) {
            setThreshold();
        } else if (which < 18) {
            slots(1 + random.nextInt(6));
            compare();
        } else {
            slots(1 + random.nextInt(40));
            compare();
        }
    }

    private void offer() {
        int from = random.nextInt(many);
        int to = (from + 1 + random.nextInt(many - 1)) % many;
        int slots = 1 + random.nextInt(random.nextBoolean() ? 2 : 8);
        int want = plain.stations.get(from).kept.size() == 10 ? SlotRadio.ROOM : plain.offer(from, to, slots);
        is("offer(" + from + ", " + to + ", " + slots + ")", radio.offer(from, to, slots), want);
    }

    private void coin() {
        int v = random.nextInt(random.nextBoolean() ? 4 : 1000);
        plain.coins.add(v);
        is("coin(" + v + ")", radio.coin(v), plain.coins.size() - plain.drawn);
    }

    private void noise() {
        int station = random.nextInt(many);
        long from = plain.t + random.nextInt(20);
        int n = 1 + random.nextInt(random.nextBoolean() ? 3 : 30);
        boolean room = plain.noises.size() < 40;
        if (room) {
            plain.noises.add(new PlainRadio.Noise(station, from, n));
        }
        int want = room ? plain.noises.size() : SlotRadio.ROOM;
        is("noise(" + station + ", " + from + ", " + n + ")", radio.noise(station, from, n), want);
    }

    private void hear() {
        int station = random.nextInt(many);
        int other = (station + 1 + random.nextInt(many - 1)) % many;
        boolean on = random.nextInt(3) > 0;
        int want = plain.hears[station][other] == on ? 0 : 1;
        plain.hears[station][other] = on;
        is("hear(" + station + ", " + other + ", " + on + ")", radio.hear(station, other, on), want);
    }

    private void setThreshold() {
        int slots = random.nextInt(25);
        is("threshold(" + slots + ")", radio.threshold(slots), plain.threshold);
        plain.threshold = slots;
    }

    private void slots(int n) {
        is("run(" + n + ")", radio.run(n), plain.run(n));
    }

    private void compare() {
        is("now", radio.now(), plain.t);
        for (int station = 0; station < many; station++) {
            for (int what = 0; what < 8; what++) {
                is("state(" + station + ", " + what + ")", radio.state(station, what), plain.state(station, what));
            }
            for (int kind = 1; kind <= 4; kind++) {
                int want = plain.stations.get(station).sent[kind];
                is("sent(" + station + ", " + kind + ")", radio.sent(station, kind), want);
            }
        }
    }

    private void compareEvents() {
        for (int i = 0; i < plain.events.size(); i++) {
            PlainRadio.Event event = plain.events.get(i);
            is("event(" + i + ", 0)", radio.event(i, 0), event.payload());
            is("event(" + i + ", 1)", radio.event(i, 1), event.kind());
            is("event(" + i + ", 2)", radio.event(i, 2), event.slot());
        }
        is("event behind the last", radio.event(plain.events.size(), 0), SlotRadio.NONE);
    }

    private void is(String call, long got, long want) {
        DUE.is(name + ": " + call + " at " + plain.t, got, want);
    }
}
