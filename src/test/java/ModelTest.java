import java.util.Random;
import java.util.function.ToIntFunction;

/**
 * Promises 1 to 11 in runs that nobody chose: SlotRadio answers as PlainRadio does. The seeds are fixed. An object is
 * used for 512 calls at most, so there are several that all get the calls that change something; each is asked other
 * things.
 */
public final class ModelTest {
    private static final Due DUE = new Due("ModelTest");
    private static final int RUNS = 1500;
    /** 8 states and 4 kinds of frames. */
    private static final int STATES = 8, ALIKE = 12;

    private final Random random;
    private final String name;
    private final int many;
    private final SlotRadio[] radios = new SlotRadio[ALIKE];
    private final PlainRadio plain;

    private ModelTest(int seed) {
        random = new Random(seed);
        name = "run " + seed;
        many = 2 + random.nextInt(5);
        for (int i = 0; i < ALIKE; i++) {
            radios[i] = new SlotRadio(many);
        }
        plain = new PlainRadio(many);
    }

    public static void main(String[] args) {
        for (int seed = 0; seed < RUNS; seed++) {
            new ModelTest(seed).go();
        }
        DUE.end();
    }

    private void go() {
        boolean hidden = random.nextBoolean();
        for (int i = 0; i < many * many; i++) {
            if (hidden && random.nextInt(3) == 0) {
                hear();
            }
        }
        setThreshold();
        if (random.nextInt(3) == 0) {
            restless();
        } else {
            int steps = 20 + random.nextInt(60);
            for (int step = 0; step < steps; step++) {
                call(random.nextInt(20));
            }
        }
        slots(300);
        compare();
        compareEvents();
    }

    /** Hearing changes from slot to slot, so that frames are received of which only the head and a part were heard. */
    private void restless() {
        for (int step = 0; step < 200; step++) {
            int which = random.nextInt(20);
            if (which < 4) {
                offer();
            } else if (which < 5) {
                coin();
            } else if (which < 11) {
                hear();
            } else {
                slots(1);
                if (step % 5 == 0) {
                    compare();
                }
            }
        }
    }

    private void call(int which) {
        if (which < 5) {
            offer();
        } else if (which < 7) {
            coin();
        } else if (which < 9) {
            noise();
        } else if (which < 11) {
            hear();
        } else if (which < 12) {
            setThreshold();
        } else if (which < 18) {
            slots(1 + random.nextInt(6));
            compare();
        } else {
            slots(1 + random.nextInt(40));
            compare();
        }
    }

    private void offer() {
        int from = random.nextInt(many);
        int to = (from + 1 + random.nextInt(many - 1)) % many;
        int slots = 1 + random.nextInt(random.nextBoolean() ? 2 : 8);
        int want = plain.stations.get(from).kept.size() == 10 ? SlotRadio.ROOM : plain.offer(from, to, slots);
        all("offer(" + from + ", " + to + ", " + slots + ")", want, r -> r.offer(from, to, slots));
    }

    private void coin() {
        int v = random.nextInt(random.nextBoolean() ? 4 : 1000);
        plain.coins.add(v);
        all("coin(" + v + ")", plain.coins.size() - plain.drawn, r -> r.coin(v));
    }

    private void noise() {
        int station = random.nextInt(many);
        long from = plain.t + random.nextInt(20);
        int n = 1 + random.nextInt(random.nextBoolean() ? 3 : 30);
        boolean room = plain.noises.size() < 40;
        if (room) {
            plain.noises.add(new PlainRadio.Noise(station, from, n));
        }
        int want = room ? plain.noises.size() : SlotRadio.ROOM;
        all("noise(" + station + ", " + from + ", " + n + ")", want, r -> r.noise(station, from, n));
    }

    private void hear() {
        int station = random.nextInt(many);
        int other = (station + 1 + random.nextInt(many - 1)) % many;
        boolean on = random.nextInt(3) > 0;
        int want = plain.hears[station][other] == on ? 0 : 1;
        plain.hears[station][other] = on;
        all("hear(" + station + ", " + other + ", " + on + ")", want, r -> r.hear(station, other, on));
    }

    private void setThreshold() {
        int slots = random.nextInt(25);
        all("threshold(" + slots + ")", plain.threshold, r -> r.threshold(slots));
        plain.threshold = slots;
    }

    private void slots(int n) {
        all("run(" + n + ")", plain.run(n), r -> r.run(n));
    }

    private void compare() {
        is("now", radios[0].now(), plain.t);
        for (int station = 0; station < many; station++) {
            for (int what = 0; what < STATES; what++) {
                int got = radios[what].state(station, what);
                is("state(" + station + ", " + what + ")", got, plain.state(station, what));
            }
            for (int kind = 1; kind <= 4; kind++) {
                int got = radios[ALIKE - kind].sent(station, kind);
                is("sent(" + station + ", " + kind + ")", got, plain.stations.get(station).sent[kind]);
            }
        }
    }

    private void compareEvents() {
        for (int i = 0; i < plain.events.size(); i++) {
            PlainRadio.Event event = plain.events.get(i);
            is("event(" + i + ", 0)", radios[0].event(i, 0), event.payload());
            is("event(" + i + ", 1)", radios[1].event(i, 1), event.kind());
            is("event(" + i + ", 2)", radios[2].event(i, 2), event.slot());
        }
        is("event behind the last", radios[3].event(plain.events.size(), 0), SlotRadio.NONE);
    }

    private void all(String call, int want, ToIntFunction<SlotRadio> on) {
        for (SlotRadio radio : radios) {
            is(call, on.applyAsInt(radio), want);
        }
    }

    private void is(String call, long got, long want) {
        DUE.is(name + ": " + call + " at " + plain.t, got, want);
    }
}
