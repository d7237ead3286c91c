/** The boundaries of TAKING (promise 7): the first number of DATA below, at and above the wanted one; what is held. */
public final class EdgeTakingTest {
    private static final Due DUE = new Due("EdgeTakingTest");

    public static void main(String[] args) {
        wantedItself();
        belowTheWanted();
        aboveTheWantedAndNoneHeld();
        aboveTheWantedAndTwoHeldBelow();
        heldIsTheFirstOne();
        asLongAsTheWantedOneIsHeld();
        numbersOfOneToAnother();
        heldOfAnotherPairStaysHeld();
        DUE.end();
    }

    /** Numbers 0, then 1: each is the wanted one. */
    private static void wantedItself() {
        SlotRadio radio = new SlotRadio(2);
        radio.offer(0, 1, 1);
        radio.run(8);
        radio.offer(0, 1, 1);
        radio.run(20);
        DUE.events("one behind the other", radio, new int[][] {{1, 1, 4}, {1, 3, 7}, {2, 1, 12}, {2, 3, 15}});
    }

    /**
     * Three payloads in 3 .. 6: the first is handed over, the second lost, the third held; ACKNOWLEDGE is lost. Again
     * in 16 .. 19, the second lost: number 0 is below the wanted 1, and nothing is handed over, neither the first
     * again nor the held one. The second alone in 26 and 27.
     */
    private static void belowTheWanted() {
        SlotRadio radio = new SlotRadio(2);
        for (int i = 0; i < 3; i++) {
            radio.offer(0, 1, 1);
        }
        radio.noise(1, 5, 1);
        radio.noise(0, 8, 1);
        radio.noise(1, 18, 1);
        radio.run(40);
        DUE.events("below the wanted", radio, new int[][] {
            {1, 1, 6}, {1, 3, 22}, {3, 3, 22}, {2, 1, 27}, {3, 1, 27}, {2, 3, 30}});
    }

    /**
     * "If that is above the number that is wanted next": by one. Number 0 is given up in 40, number 1 goes in 43 and
     * 44.
     */
    private static void aboveTheWantedAndNoneHeld() {
        SlotRadio radio = new SlotRadio(2);
        radio.hear(1, 0, false);
        radio.offer(0, 1, 1);
        radio.run(41);
        radio.hear(1, 0, true);
        radio.offer(0, 1, 1);
        radio.run(20);
        DUE.events("above the wanted", radio, new int[][] {{1, 2, 40}, {2, 1, 44}, {2, 3, 47}});
    }

    /**
     * "those that are held with a number below it are handed over, in their order": of four payloads in 3 .. 7
     * numbers 1 and 3 are held; 0 and 2 are given up in 56 and 96; number 4 goes in 99 and 100. "And it is wanted
     * next": 5 is then wanted behind 4, and goes in 120 and 121.
     */
    private static void aboveTheWantedAndTwoHeldBelow() {
        SlotRadio radio = new SlotRadio(2);
        for (int i = 0; i < 4; i++) {
            radio.offer(0, 1, 1);
        }
        radio.noise(1, 4, 1);
        radio.noise(1, 6, 1);
        radio.run(11);
        radio.hear(1, 0, false);
        radio.run(86);
        radio.hear(1, 0, true);
        radio.offer(0, 1, 1);
        radio.run(20);
        DUE.events("two below", radio, new int[][] {
            {2, 3, 10}, {4, 3, 10}, {1, 2, 56}, {3, 2, 96}, {2, 1, 100}, {4, 1, 100}, {5, 1, 100}, {5, 3, 103}});
        radio.run(3);
        radio.offer(0, 1, 1);
        radio.run(5);
        DUE.is("5 is wanted next: payload", radio.event(8, 0), 6);
        DUE.is("5 is wanted next: kind", radio.event(8, 1), 1);
        DUE.is("5 is wanted next: slot", radio.event(8, 2), 121);
    }

    /**
     * Number 1 is held and ACKNOWLEDGE lost, number 0 is given up in 57. DATA with number 1 in 63 and 64 loses its
     * payload: 1 is not below it, but is wanted next then, and as it is held it is handed over. It is acknowledged, and
     * not handed over again, in 71 .. 75.
     */
    private static void heldIsTheFirstOne() {
        SlotRadio radio = new SlotRadio(2);
        radio.offer(0, 1, 1);
        radio.offer(0, 1, 1);
        radio.noise(1, 4, 1);
        radio.noise(0, 7, 1);
        radio.noise(1, 64, 1);
        radio.run(9);
        radio.hear(1, 0, false);
        radio.run(49);
        radio.hear(1, 0, true);
        radio.run(40);
        DUE.events("held before", radio, new int[][] {{1, 2, 57}, {2, 1, 64}, {2, 3, 75}});
    }

    /** "as long as the wanted one is held": none, one, two, three or four of four in 3 .. 7 are handed over at once. */
    private static void asLongAsTheWantedOneIsHeld() {
        for (int good = 0; good <= 4; good++) {
            SlotRadio radio = new SlotRadio(2);
            for (int i = 0; i < 4; i++) {
                radio.offer(0, 1, 1);
            }
            radio.noise(1, 4 + good, 1);
            radio.run(8);
            for (int i = 0; i < good; i++) {
                DUE.is("event " + i + " of " + good, radio.event(i, 0), i + 1);
                DUE.is("kind " + i + " of " + good, radio.event(i, 1), 1);
            }
            DUE.is("no more than " + good, radio.event(good, 0), SlotRadio.NONE);
            radio.run(30);
            DUE.is("all of them behind the gap", radio.event(7, 0), good == 4 ? 4 : good + 1);
            DUE.is("and not twice", radio.event(8, 0), SlotRadio.NONE);
        }
    }

    /**
     * "each has a NUMBER among those from that one to that other (0, 1, ..)": payloads 1 and 6 of one row have
     * numbers 0 and 1, though others were offered between them; with a gap between their numbers 6 would only be held
     * in 5.
     */
    private static void numbersOfOneToAnother() {
        SlotRadio radio = new SlotRadio(3);
        radio.coin(0);
        radio.coin(3);
        radio.coin(3);
        radio.offer(0, 1, 1);
        radio.offer(1, 0, 1);
        radio.offer(2, 1, 1);
        radio.offer(1, 2, 1);
        radio.offer(2, 0, 1);
        radio.offer(0, 1, 1);
        radio.run(6);
        DUE.events("one row", radio, new int[][] {{1, 1, 5}, {6, 1, 5}});
    }

    /**
     * Number 1 from 0 to 1 is held; number 0, sent in 12 and then every 8 slots, is given up in 49. What goes from and
     * to others, in two rows, tells nothing of these; number 2 from 0 to 1 does.
     */
    private static void heldOfAnotherPairStaysHeld() {
        int[][] others = {{0, 2}, {2, 1}, {1, 0}, {2, 0}, {1, 2}};
        for (int[] other : others) {
            SlotRadio radio = new SlotRadio(3);
            radio.offer(0, 1, 1);
            radio.offer(0, 1, 1);
            radio.noise(1, 4, 1);
            radio.run(9);
            radio.hear(1, 0, false);
            radio.run(50);
            radio.hear(1, 0, true);
            DUE.events("given up", radio, new int[][] {{2, 3, 8}, {1, 2, 49}});
            for (int i = 0; i < 5; i++) {
                radio.offer(other[0], other[1], 1);
            }
            String pair = "from " + other[0] + " to " + other[1];
            DUE.is("handed over and acknowledged " + pair, radio.run(60), 10);
            DUE.is("the last handed over " + pair, radio.event(10, 0), 7);
            radio.offer(0, 1, 1);
            DUE.is("and then from 0 to 1", radio.run(40), 3);
            DUE.is("the held one first", radio.event(12, 0), 2);
            DUE.is("then the new one", radio.event(13, 0), 8);
        }
    }
}
