import java.util.Arrays;

/** Stations that share a medium in slots. The promises are numbered in the document, DOC.md. */
public final class SlotRadio {
    public static final int NONE = -1;
    public static final int UNKNOWN = -11, OUTSIDE = -12, ROOM = -14;

    private static final int NOTHING = 0, ASK = 1, ANSWER = 2, DATA = 3, ACKNOWLEDGE = 4;
    private static final int HANDED_OVER = 1, GIVEN_UP = 2, ACKNOWLEDGED = 3;

    private static final int FEWEST_STATIONS = 2, MOST_STATIONS = 6;
    private static final int MOST_COINS = 400;
    private static final int MOST_PAYLOADS = 300, MOST_KEPT = 10, MOST_IN_ROW = 4, LONGEST_PAYLOAD = 8;
    private static final int MOST_NOISES = 40, LONGEST_NOISE = 1000;
    private static final long LAST_NOISE = 1000000;
    private static final int MOST_EVENTS = 700;
    private static final int MOST_SLOTS = 2000;
    private static final int FIRST_THRESHOLD = 20, LARGEST_THRESHOLD = 100;

    private static final int FIRST_WIDTH = 3, LARGEST_WIDTH = 63, MOST_TRIES = 4;
    private static final int NEEDS_AFTER_RECEIVED = 3, NEEDS_AFTER_LOST = 6;
    private static final int SHORT_FRAME = 2, HEAD = 1, REPLY_AFTER = 2, PATIENCE = 4;

    private final Station[] stations;
    private final Coins coins = new Coins();
    private final Payloads payloads = new Payloads();
    private final NoiseRows noiseRows = new NoiseRows();
    private final Events events = new Events();
    /** The payloads of the DATA at hand whose slots were all good: made once, filled for each DATA. */
    private final Row taken = new Row(MOST_IN_ROW);
    private int askFrom = FIRST_THRESHOLD;
    private long time = 0;
    /** A bit for each station that sends in the slot at hand. */
    private int senders = 0;

    public SlotRadio(int stations) {
        int many = Math.max(FEWEST_STATIONS, Math.min(MOST_STATIONS, stations));
        this.stations = new Station[many];
        for (int i = 0; i < many; i++) {
            this.stations[i] = new Station(i, many);
        }
    }

    public int hear(int station, int other, boolean on) {
        if (!isStation(station) || !isStation(other)) {
            return UNKNOWN;
        }
        if (station == other) {
            return OUTSIDE;
        }
        Station listener = stations[station];
        int bit = stations[other].bit;
        if (((listener.heard & bit) != 0) == on) {
            return 0;
        }
        listener.heard ^= bit;
        return 1;
    }

    public int coin(int v) {
        if (v < 0) {
            return OUTSIDE;
        }
        coins.add(v);
        return coins.undrawn();
    }

    public int threshold(int slots) {
        if (slots < 0 || slots > LARGEST_THRESHOLD) {
            return OUTSIDE;
        }
        int before = askFrom;
        askFrom = slots;
        return before;
    }

    public int offer(int from, int to, int slots) {
        if (!isStation(from) || !isStation(to)) {
            return UNKNOWN;
        }
        if (from == to || slots < 1 || slots > LONGEST_PAYLOAD) {
            return OUTSIDE;
        }
        Station keeper = stations[from];
        if (payloads.isFull() || keeper.kept.isFull()) {
            return ROOM;
        }
        int payload = payloads.add(from, to, slots);
        if (keeper.kept.size == 0) {
            drawCount(keeper);
        }
        keeper.kept.add(payload);
        return payload;
    }

    public int noise(int station, long from, int n) {
        if (!isStation(station)) {
            return UNKNOWN;
        }
        if (from < time || from > LAST_NOISE || n < 1 || n > LONGEST_NOISE) {
            return OUTSIDE;
        }
        if (noiseRows.isFull()) {
            return ROOM;
        }
        noiseRows.add(station, from, n);
        return noiseRows.size;
    }

    public int run(int n) {
        if (n < 1 || n > MOST_SLOTS) {
            return OUTSIDE;
        }
        int before = events.total;
        for (int i = 0; i < n; i++) {
            beginFrames();
            markGoodSlots();
            endFrames();
            countIdleSlots();
            time++;
        }
        return events.total - before;
    }

    public int event(int i, int what) {
        if (i < 0 || i >= events.told()) {
            return NONE;
        }
        switch (what) {
            case 0:
                return events.payload[i];
            case 1:
                return events.kind[i];
            case 2:
                return events.slot[i];
            default:
                return NONE;
        }
    }

    public int state(int station, int what) {
        if (!isStation(station)) {
            return UNKNOWN;
        }
        Station asked = stations[station];
        switch (what) {
            case 0:
                return asked.width;
            case 1:
                return asked.count;
            case 2:
                return asked.tries;
            case 3:
                return (int) Math.max(0, asked.silentUntil - time);
            case 4:
                return asked.sending.kind;
            case 5:
                return asked.idle;
            case 6:
                return asked.needs;
            case 7:
                return asked.kept.size;
            default:
                return OUTSIDE;
        }
    }

    public int sent(int station, int kind) {
        if (!isStation(station)) {
            return UNKNOWN;
        }
        if (kind < ASK || kind > ACKNOWLEDGE) {
            return OUTSIDE;
        }
        return stations[station].begun[kind];
    }

    public long now() {
        return time;
    }

    private boolean isStation(int number) {
        return number >= 0 && number < stations.length;
    }

    private void drawCount(Station station) {
        station.count = coins.draw(station.width + 1);
    }

    // Point 1 of a slot: who begins to send.

    private void beginFrames() {
        senders = 0;
        for (Station station : stations) {
            if (station.waitKind != NOTHING && station.waitUntil <= time) {
                failAttempt(station);
            }
            if (station.due.kind != NOTHING && station.dueAt <= time) {
                station.beginDue();
            } else if (station.mayAttempt(time)) {
                beginAttempt(station);
            }
            if (station.sending.kind != NOTHING) {
                senders |= station.bit;
            }
        }
    }

    private void beginAttempt(Station station) {
        Row attempt = station.attempt;
        payloads.copyFirstOfOneReceiver(station.kept, attempt);
        int to = payloads.receiverOf(attempt);
        int dataSlots = payloads.dataSlotsOf(attempt);
        if (dataSlots >= askFrom) {
            station.sending.make(ASK, to, dataSlots);
        } else {
            station.sending.make(DATA, to, dataSlots);
            station.sending.row.copy(attempt);
        }
        station.countBegun();
    }

    private void failAttempt(Station station) {
        station.waitKind = NOTHING;
        station.tries++;
        if (station.tries > MOST_TRIES) {
            int first = station.attempt.get(0);
            station.kept.drop(first);
            events.add(first, GIVEN_UP, time);
            station.startAnew();
        } else {
            station.width = Math.min(2 * station.width + 1, LARGEST_WIDTH);
        }
        if (station.kept.size > 0) {
            drawCount(station);
        }
    }

    // Point 2 of a slot: where it is good.

    private void markGoodSlots() {
        for (Station sender : stations) {
            if ((senders & sender.bit) != 0) {
                for (Station listener : stations) {
                    if (isGood(listener, sender)) {
                        sender.sending.markGood(listener.number);
                    }
                }
                sender.sending.passed++;
            }
        }
    }

    private boolean isGood(Station listener, Station sender) {
        return (senders & listener.bit) == 0
                && (senders & listener.heard) == sender.bit
                && !noiseRows.cover(listener.number, time);
    }

    // Point 3 of a slot: who receives what ends.

    private void endFrames() {
        for (Station sender : stations) {
            Frame frame = sender.sending;
            if (frame.isOver()) {
                for (Station listener : stations) {
                    if ((listener.heard & sender.bit) != 0 && frame.isReceivedAt(listener.number)) {
                        receive(listener, sender, frame);
                    }
                }
                sender.endFrame(time);
            }
        }
    }

    private void receive(Station listener, Station sender, Frame frame) {
        listener.receivedAt = time;
        if (frame.to != listener.number) {
            listener.silentUntil = Math.max(listener.silentUntil, time + 1 + frame.left());
            return;
        }
        switch (frame.kind) {
            case ASK:
                receiveAsk(listener, sender, frame);
                break;
            case ANSWER:
                receiveAnswer(listener, sender);
                break;
            case DATA:
                receiveData(listener, sender, frame);
                break;
            case ACKNOWLEDGE:
                receiveAcknowledge(listener, sender, frame);
                break;
            default:
                break;
        }
    }

    private void receiveAsk(Station listener, Station sender, Frame ask) {
        if (listener.silentUntil <= time + 1 && listener.waitKind == NOTHING && listener.due.kind == NOTHING) {
            listener.due.make(ANSWER, sender.number, ask.dataSlots);
            listener.dueAt = time + REPLY_AFTER;
        }
    }

    private void receiveAnswer(Station listener, Station sender) {
        if (listener.waitsFor(ANSWER, sender.number)) {
            listener.waitKind = NOTHING;
            listener.due.make(DATA, sender.number, payloads.dataSlotsOf(listener.attempt));
            listener.due.row.copy(listener.attempt);
            listener.dueAt = time + REPLY_AFTER;
        }
    }

    private void receiveData(Station listener, Station sender, Frame data) {
        payloads.copyGood(data, listener.number, taken);
        takePayloads(payloads.pairOf(sender.number, listener.number), data.row);
        if ((senders & listener.bit) == 0 && listener.due.kind == NOTHING) {
            listener.due.make(ACKNOWLEDGE, sender.number, 0);
            listener.due.row.copy(taken);
            listener.dueAt = time + REPLY_AFTER;
        }
    }

    private void receiveAcknowledge(Station listener, Station sender, Frame acknowledge) {
        if (!listener.waitsFor(ACKNOWLEDGE, sender.number)) {
            return;
        }
        Row told = acknowledge.row;
        if (told.size == 0) {
            failAttempt(listener);
            return;
        }
        listener.waitKind = NOTHING;
        listener.startAnew();
        for (int i = 0; i < told.size; i++) {
            listener.kept.drop(told.get(i));
            events.add(told.get(i), ACKNOWLEDGED, time);
        }
        if (listener.kept.size > 0) {
            drawCount(listener);
        }
    }

    /**
     * What is held and falls below the wanted number, and what is held from the wanted number on without a gap,
     * stand in one rising row: so one walk over the payloads hands over both in their order.
     */
    private void takePayloads(int pair, Row sentRow) {
        payloads.wantAtLeast(pair, payloads.numberOf(sentRow.get(0)));
        for (int i = 0; i < taken.size; i++) {
            payloads.hold(pair, taken.get(i));
        }
        for (int payload = 1; payload <= payloads.size; payload++) {
            if (payloads.releases(pair, payload)) {
                events.add(payload, HANDED_OVER, time);
            }
        }
    }

    // Point 4 of a slot: who was idle.

    private void countIdleSlots() {
        for (Station station : stations) {
            boolean hearsSome = (senders & station.heard) != 0;
            if (!hearsSome && station.heardSome) {
                station.needs = station.receivedAt == time - 1 ? NEEDS_AFTER_RECEIVED : NEEDS_AFTER_LOST;
            }
            station.heardSome = hearsSome;
            boolean busy = hearsSome || (senders & station.bit) != 0;
            station.countIdle(!busy && station.isFree() && station.silentUntil <= time);
        }
    }

    /** What one station knows and does. */
    private static final class Station {
        final int number;
        final int bit;
        /** A bit for each station that this one hears. */
        int heard;
        int width = FIRST_WIDTH;
        int tries = 0;
        int count = 0;
        int idle = 0;
        int needs = NEEDS_AFTER_RECEIVED;
        long silentUntil = 0;
        int waitKind = NOTHING;
        int waitFrom = 0;
        long waitUntil = 0;
        long dueAt = 0;
        Frame due;
        Frame sending;
        final Row kept = new Row(MOST_KEPT);
        final Row attempt = new Row(MOST_IN_ROW);
        final int[] begun = new int[ACKNOWLEDGE + 1];
        /** Whether it heard a sender in the slot before. */
        boolean heardSome = false;
        /** The slot with which a frame that it received ended last. */
        long receivedAt = NONE;

        Station(int number, int many) {
            this.number = number;
            bit = 1 << number;
            heard = ((1 << many) - 1) ^ bit;
            due = new Frame(many);
            sending = new Frame(many);
        }

        boolean isFree() {
            return waitKind == NOTHING && due.kind == NOTHING;
        }

        boolean mayAttempt(long time) {
            return sending.kind == NOTHING && isFree() && kept.size > 0
                    && count == 0 && idle >= needs && silentUntil <= time;
        }

        boolean waitsFor(int kind, int from) {
            return waitKind == kind && waitFrom == from;
        }

        void startAnew() {
            tries = 0;
            width = FIRST_WIDTH;
        }

        void beginDue() {
            // The two frames change places, so that none is made while slots pass.
            Frame begins = due;
            due = sending;
            due.kind = NOTHING;
            sending = begins;
            countBegun();
        }

        void countBegun() {
            begun[sending.kind]++;
        }

        void endFrame(long time) {
            int kind = sending.kind;
            sending.kind = NOTHING;
            if (kind == ASK || kind == DATA) {
                waitKind = kind == ASK ? ANSWER : ACKNOWLEDGE;
                waitFrom = sending.to;
                waitUntil = time + PATIENCE;
            }
        }

        void countIdle(boolean idles) {
            if (!idles) {
                idle = 0;
                return;
            }
            idle++;
            if (idle > needs && count > 0) {
                count--;
            }
        }
    }

    /** A frame that is due or being sent; of kind NOTHING there is none. */
    private static final class Frame {
        int kind = NOTHING;
        int to = 0;
        /** Of ASK and ANSWER: of the data to come. */
        int dataSlots = 0;
        int passed = 0;
        /** The payloads of DATA, or those that ACKNOWLEDGE tells. */
        final Row row = new Row(MOST_IN_ROW);
        /** For each station a bit for each slot that was good there; the longest frame has 33. */
        final long[] good;

        Frame(int many) {
            good = new long[many];
        }

        void make(int kind, int to, int dataSlots) {
            this.kind = kind;
            this.to = to;
            this.dataSlots = dataSlots;
            passed = 0;
            row.size = 0;
            Arrays.fill(good, 0L);
        }

        int length() {
            return kind == DATA ? dataSlots : SHORT_FRAME;
        }

        boolean isOver() {
            return kind != NOTHING && passed >= length();
        }

        int left() {
            switch (kind) {
                case ASK:
                    return 7 + dataSlots;
                case ANSWER:
                    return 4 + dataSlots;
                case DATA:
                    return 3;
                default:
                    return 0;
            }
        }

        void markGood(int station) {
            good[station] |= 1L << passed;
        }

        boolean areGood(int station, int first, int slots) {
            long bits = ((1L << slots) - 1) << first;
            return (good[station] & bits) == bits;
        }

        boolean isReceivedAt(int station) {
            return areGood(station, 0, kind == DATA ? HEAD : SHORT_FRAME);
        }
    }

    /** Payloads in their order, of which there is room for so many. */
    private static final class Row {
        final int[] payload;
        int size = 0;

        Row(int most) {
            payload = new int[most];
        }

        boolean isFull() {
            return size >= payload.length;
        }

        int get(int i) {
            return i >= 0 && i < size ? payload[i] : 0;
        }

        void add(int one) {
            if (!isFull()) {
                payload[size] = one;
                size++;
            }
        }

        void copy(Row other) {
            size = 0;
            for (int i = 0; i < other.size; i++) {
                add(other.payload[i]);
            }
        }

        void drop(int one) {
            int left = 0;
            for (int i = 0; i < size; i++) {
                if (payload[i] != one) {
                    payload[left] = payload[i];
                    left++;
                }
            }
            size = left;
        }
    }

    /** All payloads that were offered, with what the receivers want and hold of them. */
    private static final class Payloads {
        /** Payload 0 is none: it stays 0 everywhere, so that a look at it does no harm. */
        final int[] pair = new int[MOST_PAYLOADS + 1];
        final int[] slots = new int[MOST_PAYLOADS + 1];
        final int[] number = new int[MOST_PAYLOADS + 1];
        final boolean[] held = new boolean[MOST_PAYLOADS + 1];
        int size = 0;
        /** For each pair of stations. */
        final int[] nextNumber = new int[MOST_STATIONS * MOST_STATIONS];
        final int[] wanted = new int[MOST_STATIONS * MOST_STATIONS];

        int pairOf(int from, int to) {
            return from * MOST_STATIONS + to;
        }

        boolean isFull() {
            return size >= MOST_PAYLOADS;
        }

        int add(int from, int to, int slotsOfIt) {
            size++;
            pair[size] = pairOf(from, to);
            slots[size] = slotsOfIt;
            number[size] = nextNumber[pair[size]];
            nextNumber[pair[size]]++;
            return size;
        }

        int numberOf(int payload) {
            return number[payload];
        }

        int receiverOf(Row row) {
            return pair[row.get(0)] % MOST_STATIONS;
        }

        int dataSlotsOf(Row row) {
            int sum = HEAD;
            for (int i = 0; i < row.size; i++) {
                sum += slots[row.get(i)];
            }
            return sum;
        }

        void copyFirstOfOneReceiver(Row kept, Row attempt) {
            attempt.size = 0;
            for (int i = 0; i < kept.size && !attempt.isFull() && pair[kept.get(i)] == pair[kept.get(0)]; i++) {
                attempt.add(kept.get(i));
            }
        }

        void copyGood(Frame data, int station, Row good) {
            good.size = 0;
            int first = HEAD;
            for (int i = 0; i < data.row.size; i++) {
                int payload = data.row.get(i);
                if (data.areGood(station, first, slots[payload])) {
                    good.add(payload);
                }
                first += slots[payload];
            }
        }

        void wantAtLeast(int pairOfIt, int least) {
            wanted[pairOfIt] = Math.max(wanted[pairOfIt], least);
        }

        void hold(int pairOfIt, int payload) {
            if (number[payload] >= wanted[pairOfIt]) {
                held[payload] = true;
            }
        }

        /** Whether a payload is handed over now; if so it is held no more. */
        boolean releases(int pairOfIt, int payload) {
            if (!held[payload] || pair[payload] != pairOfIt || number[payload] > wanted[pairOfIt]) {
                return false;
            }
            held[payload] = false;
            if (number[payload] == wanted[pairOfIt]) {
                wanted[pairOfIt]++;
            }
            return true;
        }
    }

    /** The coins that were told; they are drawn in the same order. */
    private static final class Coins {
        final int[] value = new int[MOST_COINS];
        int told = 0;
        int drawn = 0;

        void add(int v) {
            if (told < MOST_COINS) {
                value[told] = v;
                told++;
            }
        }

        int undrawn() {
            return told - drawn;
        }

        /** One of the numbers 0 .. many - 1. */
        int draw(int many) {
            if (drawn >= told || many < 1) {
                return 0;
            }
            int v = value[drawn];
            drawn++;
            return v % many;
        }
    }

    /** When there is noise, and where. */
    private static final class NoiseRows {
        final int[] station = new int[MOST_NOISES];
        final long[] first = new long[MOST_NOISES];
        final long[] end = new long[MOST_NOISES];
        int size = 0;

        boolean isFull() {
            return size >= MOST_NOISES;
        }

        void add(int where, long from, int slots) {
            station[size] = where;
            first[size] = from;
            end[size] = from + slots;
            size++;
        }

        boolean cover(int where, long slot) {
            for (int i = 0; i < size; i++) {
                if (station[i] == where && first[i] <= slot && slot < end[i]) {
                    return true;
                }
            }
            return false;
        }
    }

    /** What came to pass: all is counted, the first ones are told. */
    private static final class Events {
        final int[] payload = new int[MOST_EVENTS];
        final int[] kind = new int[MOST_EVENTS];
        final int[] slot = new int[MOST_EVENTS];
        int total = 0;

        int told() {
            return Math.min(total, MOST_EVENTS);
        }

        void add(int payloadOfIt, int kindOfIt, long slotOfIt) {
            if (total < MOST_EVENTS) {
                payload[total] = payloadOfIt;
                kind[total] = kindOfIt;
                slot[total] = (int) slotOfIt;
            }
            total++;
        }
    }
}
