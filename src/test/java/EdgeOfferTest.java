/** The boundaries of promise 5, and of what the terms say of PAYLOADS. */
public final class EdgeOfferTest {
    private static final Due DUE = new Due("EdgeOfferTest");
    private static final int[] NO_STATION = {-1, 3, Integer.MIN_VALUE, Integer.MAX_VALUE};
    private static final int[] NO_LENGTH = {0, -1, 9, 10, Integer.MIN_VALUE, Integer.MAX_VALUE};

    public static void main(String[] args) {
        unknownFrom();
        unknownTo();
        bothAreTheSame();
        slotsOutside();
        shortestAndLongest();
        keepsTenAtMost();
        roomComesBackOneByOne();
        threeHundredAtMost();
        drawnWhenItKeepsNone();
        DUE.end();
    }

    /** UNKNOWN, and before OUTSIDE; in the full states of Twins before ROOM, too. */
    private static void unknownFrom() {
        for (int wrong : NO_STATION) {
            Twins.refused(DUE, "offer(" + wrong + ", 0, 1)", SlotRadio.UNKNOWN, r -> r.offer(wrong, 0, 1));
            Twins.refused(DUE, "offer(" + wrong + ", 0, 9)", SlotRadio.UNKNOWN, r -> r.offer(wrong, 0, 9));
            Twins.refused(DUE, "offer(" + wrong + " twice)", SlotRadio.UNKNOWN, r -> r.offer(wrong, wrong, 1));
        }
    }

    private static void unknownTo() {
        for (int wrong : NO_STATION) {
            Twins.refused(DUE, "offer(0, " + wrong + ", 1)", SlotRadio.UNKNOWN, r -> r.offer(0, wrong, 1));
            Twins.refused(DUE, "offer(0, " + wrong + ", 0)", SlotRadio.UNKNOWN, r -> r.offer(0, wrong, 0));
        }
    }

    /** "OUTSIDE (both are the same": the next ones on each side are allowed. */
    private static void bothAreTheSame() {
        for (int same = 0; same < 3; same++) {
            int it = same;
            Twins.refused(DUE, "offer(" + it + " twice)", SlotRadio.OUTSIDE, r -> r.offer(it, it, 1));
        }
        SlotRadio radio = new SlotRadio(3);
        DUE.is("offer(1, 0, 1)", radio.offer(1, 0, 1), 1);
        DUE.is("offer(1, 2, 1)", radio.offer(1, 2, 1), 2);
    }

    /** "slots 1 .. 8)": in the full states of Twins OUTSIDE comes before ROOM. */
    private static void slotsOutside() {
        for (int wrong : NO_LENGTH) {
            Twins.refused(DUE, "offer(0, 1, " + wrong + ")", SlotRadio.OUTSIDE, r -> r.offer(0, 1, wrong));
        }
    }

    /** "take 1 to 8 slots": DATA begins in 3 with its head, so it ends with 4 or 11. */
    private static void shortestAndLongest() {
        SlotRadio shortest = new SlotRadio(2);
        DUE.is("offer(0, 1, 1)", shortest.offer(0, 1, 1), 1);
        shortest.run(20);
        DUE.events("of 1 slot", shortest, new int[][] {{1, 1, 4}, {1, 3, 7}});
        SlotRadio longest = new SlotRadio(2);
        DUE.is("offer(0, 1, 8)", longest.offer(0, 1, 8), 1);
        longest.run(20);
        DUE.events("of 8 slots", longest, new int[][] {{1, 1, 11}, {1, 3, 14}});
    }

    /** "ROOM (.. or the station keeps 10)"; others have room. */
    private static void keepsTenAtMost() {
        for (int kept = 0; kept <= 9; kept++) {
            DUE.is("offer when " + kept + " are kept", Twins.kept(kept).offer(0, 2, 1), kept + 1);
        }
        Twins.refusedIn(DUE, "10 kept", () -> Twins.kept(10), "offer(0, 1, 1)", SlotRadio.ROOM, r -> r.offer(0, 1, 1));
        Twins.refusedIn(DUE, "10 kept", () -> Twins.kept(10), "offer(0, 2, 8)", SlotRadio.ROOM, r -> r.offer(0, 2, 8));
        SlotRadio radio = Twins.kept(10);
        DUE.is("another station keeps none", radio.offer(1, 0, 1), 11);
        DUE.is("though the first keeps 10", radio.state(0, 7), 10);
    }

    /** DATA of 2 slots, for 1 alone, in 3 and 4 is acknowledged in 7: of 10 kept there are 9 then. */
    private static void roomComesBackOneByOne() {
        SlotRadio radio = new SlotRadio(3);
        radio.offer(0, 1, 1);
        for (int i = 0; i < 9; i++) {
            radio.offer(0, 2, 1);
        }
        radio.run(7);
        DUE.is("before the acknowledgement", radio.offer(0, 1, 1), SlotRadio.ROOM);
        radio.run(1);
        DUE.is("9 are kept", radio.state(0, 7), 9);
        DUE.is("behind the acknowledgement", radio.offer(0, 1, 1), 11);
        DUE.is("10 are kept", radio.offer(0, 1, 1), SlotRadio.ROOM);
    }

    /** "ROOM (300": for every station, also for those that keep none. */
    private static void threeHundredAtMost() {
        DUE.is("the 299th", Twins.offered(298).offer(1, 2, 1), 299);
        SlotRadio radio = Twins.offered(299);
        DUE.is("the 300th", radio.offer(2, 1, 1), 300);
        DUE.is("the 301st", radio.offer(2, 1, 1), SlotRadio.ROOM);
        radio.run(2000);
        for (int from = 0; from < 3; from++) {
            int it = from;
            DUE.is("kept by " + from, radio.state(from, 7), 0);
            DUE.is("the 301st, from " + from, radio.offer(from, (from + 1) % 3, 1), SlotRadio.ROOM);
            Twins.refusedIn(DUE, "300 payloads", () -> Twins.offered(300), "offer from " + from, SlotRadio.ROOM,
                    r -> r.offer(it, (it + 1) % 3, 1));
        }
        Twins.refusedIn(DUE, "300 payloads, 10 kept", EdgeOfferTest::threeHundredAndTenKept, "offer(0, 1, 1)",
                SlotRadio.ROOM, r -> r.offer(0, 1, 1));
    }

    private static SlotRadio threeHundredAndTenKept() {
        SlotRadio radio = Twins.offered(290);
        for (int i = 0; i < 10; i++) {
            radio.offer(0, 1, 1);
        }
        return radio;
    }

    /** "When a payload comes to a station that keeps none its count is drawn": not when it keeps one. */
    private static void drawnWhenItKeepsNone() {
        SlotRadio radio = new SlotRadio(2);
        radio.coin(3);
        radio.coin(2);
        radio.offer(0, 1, 1);
        DUE.is("it kept none", radio.state(0, 1), 3);
        radio.offer(0, 1, 1);
        DUE.is("it kept one", radio.state(0, 1), 3);
        DUE.is("one coin is left", radio.coin(1), 2);
        radio.run(20);
        DUE.is("it keeps none again", radio.state(0, 7), 0);
        radio.offer(0, 1, 1);
        DUE.is("it kept none again", radio.state(0, 1), 2);
        radio.offer(1, 0, 1);
        DUE.is("the other one kept none", radio.state(1, 1), 1);
    }
}
