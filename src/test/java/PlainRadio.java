import java.util.ArrayList;
import java.util.HashMap;
import java.util.HashSet;
import java.util.List;
import java.util.Map;
import java.util.Set;
import java.util.TreeMap;

/**
 * The document once more, written down sentence by sentence with lists and maps and without regard to room: ModelTest
 * holds SlotRadio against it. Only what calls change is here; refusals have tests of their own.
 */
final class PlainRadio {
    record Payload(int id, int from, int to, int slots, int number) { }

    record Event(int payload, int kind, long slot) { }

    record Noise(int station, long from, int n) { }

    static final class Frame {
        int kind;
        int from;
        int to;
        int length;
        int dataToCome;
        List<Payload> payloads = List.of();
        long begin;
        /** For each station the slots of the time that were good there. */
        final Map<Integer, Set<Long>> good = new HashMap<>();

        boolean wasGood(int station, long first, int slots) {
            for (long slot = first; slot < first + slots; slot++) {
                if (!good.getOrDefault(station, Set.of()).contains(slot)) {
                    return false;
                }
            }
            return true;
        }
    }

    static final class Station {
        int width = 3;
        int tries = 0;
        int count = 0;
        int idle = 0;
        int needs = 3;
        long silent = 0;
        Long waitsUntil = null;
        int waitsFor = 0;
        int waitsForKind = 0;
        Frame due = null;
        long dueAt = 0;
        Frame sends = null;
        final List<Payload> kept = new ArrayList<>();
        List<Payload> attempt = List.of();
        final int[] sent = new int[5];
        final Set<Long> heardIn = new HashSet<>();
        final Set<Long> receivedIn = new HashSet<>();
        /** By the station that sends. */
        final Map<Integer, Integer> wanted = new HashMap<>();
        final Map<Integer, TreeMap<Integer, Payload>> held = new HashMap<>();
    }

    final List<Station> stations = new ArrayList<>();
    final List<Payload> payloads = new ArrayList<>();
    final List<Event> events = new ArrayList<>();
    final List<Noise> noises = new ArrayList<>();
    final List<Integer> coins = new ArrayList<>();
    int drawn = 0;
    int threshold = 20;
    long t = 0;
    final boolean[][] hears;

    PlainRadio(int many) {
        hears = new boolean[many][many];
        for (int i = 0; i < many; i++) {
            stations.add(new Station());
            for (int j = 0; j < many; j++) {
                hears[i][j] = i != j;
            }
        }
    }

    int offer(int from, int to, int slots) {
        int number = 0;
        for (Payload p : payloads) {
            number += p.from == from && p.to == to ? 1 : 0;
        }
        Payload payload = new Payload(payloads.size() + 1, from, to, slots, number);
        payloads.add(payload);
        Station s = stations.get(from);
        if (s.kept.isEmpty()) {
            draw(s);
        }
        s.kept.add(payload);
        return payload.id;
    }

    int run(int n) {
        int before = events.size();
        for (int i = 0; i < n; i++) {
            slot();
        }
        return events.size() - before;
    }

    private void draw(Station s) {
        int coin = drawn < coins.size() ? coins.get(drawn++) : 0;
        s.count = coin % (s.width + 1);
    }

    private void slot() {
        for (Station s : stations) {
            first(s);
        }
        List<Integer> senders = new ArrayList<>();
        for (int i = 0; i < stations.size(); i++) {
            if (stations.get(i).sends != null) {
                senders.add(i);
            }
        }
        for (int sender : senders) {
            for (int at = 0; at < stations.size(); at++) {
                if (good(sender, at, senders)) {
                    stations.get(sender).sends.good.computeIfAbsent(at, k -> new HashSet<>()).add(t);
                }
            }
        }
        for (int sender : senders) {
            third(sender, senders);
        }
        for (int i = 0; i < stations.size(); i++) {
            fourth(i, senders);
        }
        t++;
    }

    private void first(Station s) {
        if (s.waitsUntil != null && s.waitsUntil == t) {
            failed(s);
        }
        if (s.due != null && s.dueAt == t) {
            begin(s, s.due);
            s.due = null;
        } else if (s.sends == null && s.waitsUntil == null && s.due == null && !s.kept.isEmpty() && s.count == 0
                && s.idle >= s.needs && s.silent <= t) {
            attempt(s);
        }
    }

    private void attempt(Station s) {
        s.attempt = new ArrayList<>();
        for (Payload p : s.kept) {
            if (p.to != s.kept.get(0).to || s.attempt.size() == 4) {
                break;
            }
            s.attempt.add(p);
        }
        Frame data = data(s);
        begin(s, data.length >= threshold ? frame(1, data.from, data.to, 2, data.length) : data);
    }

    private Frame data(Station s) {
        int d = 1;
        for (Payload p : s.attempt) {
            d += p.slots;
        }
        Frame data = frame(3, s.attempt.get(0).from, s.attempt.get(0).to, d, 0);
        data.payloads = List.copyOf(s.attempt);
        return data;
    }

    private static Frame frame(int kind, int from, int to, int length, int dataToCome) {
        Frame f = new Frame();
        f.kind = kind;
        f.from = from;
        f.to = to;
        f.length = length;
        f.dataToCome = dataToCome;
        return f;
    }

    private void begin(Station s, Frame f) {
        f.begin = t;
        s.sends = f;
        s.sent[f.kind]++;
    }

    private boolean good(int sender, int at, List<Integer> senders) {
        if (!hears[at][sender] || senders.contains(at)) {
            return false;
        }
        for (int other : senders) {
            if (other != sender && hears[at][other]) {
                return false;
            }
        }
        for (Noise noise : noises) {
            if (noise.station == at && t >= noise.from && t <= noise.from + noise.n - 1) {
                return false;
            }
        }
        return true;
    }

    private void third(int sender, List<Integer> senders) {
        Station from = stations.get(sender);
        Frame f = from.sends;
        if (f.begin + f.length - 1 != t) {
            return;
        }
        for (int at = 0; at < stations.size(); at++) {
            if (hears[at][sender] && f.wasGood(at, f.begin, f.kind == 3 ? 1 : f.length)) {
                received(f, at, senders.contains(at));
            }
        }
        from.sends = null;
        if (f.kind == 1 || f.kind == 3) {
            from.waitsUntil = t + 4;
            from.waitsFor = f.to;
            from.waitsForKind = f.kind + 1;
        }
    }

    private void received(Frame f, int at, boolean sendsNow) {
        Station s = stations.get(at);
        s.receivedIn.add(t);
        boolean waited = s.waitsUntil != null && s.waitsForKind == f.kind && s.waitsFor == f.from;
        if (f.to != at) {
            int left = f.kind == 1 ? 7 + f.dataToCome : f.kind == 2 ? 4 + f.dataToCome : f.kind == 3 ? 3 : 0;
            s.silent = Math.max(s.silent, t + 1 + left);
        } else if (f.kind == 1) {
            if (s.silent <= t + 1 && s.waitsUntil == null && s.due == null) {
                due(s, frame(2, at, f.from, 2, f.dataToCome));
            }
        } else if (f.kind == 2) {
            if (waited) {
                s.waitsUntil = null;
                due(s, data(s));
            }
        } else if (f.kind == 3) {
            List<Payload> taken = taken(f, at);
            take(s, f, taken);
            if (!sendsNow && s.due == null) {
                Frame acknowledge = frame(4, at, f.from, 2, 0);
                acknowledge.payloads = taken;
                due(s, acknowledge);
            }
        } else if (waited) {
            acknowledged(s, f.payloads);
        }
    }

    private void due(Station s, Frame f) {
        s.due = f;
        s.dueAt = t + 2;
    }

    private static List<Payload> taken(Frame f, int at) {
        List<Payload> taken = new ArrayList<>();
        long first = f.begin + 1;
        for (Payload p : f.payloads) {
            if (f.wasGood(at, first, p.slots)) {
                taken.add(p);
            }
            first += p.slots;
        }
        return taken;
    }

    private void take(Station s, Frame f, List<Payload> taken) {
        TreeMap<Integer, Payload> held = s.held.computeIfAbsent(f.from, k -> new TreeMap<>());
        int wanted = s.wanted.getOrDefault(f.from, 0);
        int told = f.payloads.get(0).number;
        if (told > wanted) {
            for (Payload p : List.copyOf(held.headMap(told).values())) {
                handOver(held, p);
            }
            wanted = told;
        }
        for (Payload p : taken) {
            if (p.number >= wanted) {
                held.putIfAbsent(p.number, p);
            }
        }
        while (held.containsKey(wanted)) {
            handOver(held, held.get(wanted));
            wanted++;
        }
        s.wanted.put(f.from, wanted);
    }

    private void handOver(TreeMap<Integer, Payload> held, Payload p) {
        held.remove(p.number);
        events.add(new Event(p.id, 1, t));
    }

    private void acknowledged(Station s, List<Payload> told) {
        s.waitsUntil = null;
        for (Payload p : told) {
            s.kept.remove(p);
            events.add(new Event(p.id, 3, t));
        }
        if (told.isEmpty()) {
            failed(s);
            return;
        }
        s.tries = 0;
        s.width = 3;
        if (!s.kept.isEmpty()) {
            draw(s);
        }
    }

    private void failed(Station s) {
        s.waitsUntil = null;
        s.tries++;
        if (s.tries > 4) {
            Payload first = s.attempt.get(0);
            s.kept.remove(first);
            events.add(new Event(first.id, 2, t));
            s.tries = 0;
            s.width = 3;
        } else {
            s.width = Math.min(63, s.width * 2 + 1);
        }
        if (!s.kept.isEmpty()) {
            draw(s);
        }
    }

    private void fourth(int i, List<Integer> senders) {
        Station s = stations.get(i);
        for (int sender : senders) {
            if (hears[i][sender]) {
                s.heardIn.add(t);
            }
        }
        if (!s.heardIn.contains(t) && s.heardIn.contains(t - 1)) {
            s.needs = s.receivedIn.contains(t - 1) ? 3 : 6;
        }
        boolean busy = senders.contains(i) || s.heardIn.contains(t);
        if (!busy && s.waitsUntil == null && s.due == null && s.silent <= t) {
            s.idle++;
            if (s.idle > s.needs && s.count > 0) {
                s.count--;
            }
        } else {
            s.idle = 0;
        }
    }

    int state(int station, int what) {
        Station s = stations.get(station);
        return switch (what) {
            case 0 -> s.width;
            case 1 -> s.count;
            case 2 -> s.tries;
            case 3 -> (int) Math.max(0, s.silent - t);
            case 4 -> s.sends == null ? 0 : s.sends.kind;
            case 5 -> s.idle;
            case 6 -> s.needs;
            default -> s.kept.size();
        };
    }
}
