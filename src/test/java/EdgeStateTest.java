/** The boundaries of promise 9. */
public final class EdgeStateTest {
    private static final Due DUE = new Due("EdgeStateTest");
    private static final int[] NO_STATION = {-1, 3, Integer.MIN_VALUE, Integer.MAX_VALUE};
    private static final int[] NO_WHAT = {-1, 8, 9, Integer.MIN_VALUE, Integer.MAX_VALUE};

    public static void main(String[] args) {
        unknown();
        whatOutside();
        firstAndLastWhat();
        silentForNoneAndOne();
        silentForTheMost();
        sendsIntoTheNextSlotToo();
        longestFrame();
        keepsNoneAndTen();
        DUE.end();
    }

    /** UNKNOWN, and before OUTSIDE. */
    private static void unknown() {
        for (int wrong : NO_STATION) {
            for (int what = -1; what <= 8; what++) {
                int it = what;
                Twins.refused(DUE, "state(" + wrong + ", " + it + ")", SlotRadio.UNKNOWN, r -> r.state(wrong, it));
            }
        }
    }

    /** "OUTSIDE (what)". */
    private static void whatOutside() {
        for (int wrong : NO_WHAT) {
            for (int station = 0; station < 3; station += 2) {
                int it = station;
                Twins.refused(DUE, "state(" + it + ", " + wrong + ")", SlotRadio.OUTSIDE, r -> r.state(it, wrong));
            }
        }
    }

    private static void firstAndLastWhat() {
        SlotRadio radio = new SlotRadio(2);
        radio.offer(1, 0, 1);
        for (int station = 0; station < 2; station++) {
            DUE.is("state(" + station + ", 0)", radio.state(station, 0), 3);
            DUE.is("state(" + station + ", 7)", radio.state(station, 7), station);
        }
    }

    /** "for how many slots it is silent from now on": until 14 in Twins.asked; never below 0. */
    private static void silentForNoneAndOne() {
        int[][] rows = {{4, 0}, {5, 9}, {6, 8}, {12, 2}, {13, 1}, {14, 0}, {15, 0}, {16, 0}};
        for (int[] row : rows) {
            DUE.is("silent behind " + row[0] + " slots", Twins.asked(row[0]).state(2, 3), row[1]);
        }
        SlotRadio radio = Twins.asked(14);
        radio.run(2000);
        DUE.is("silent long ago", radio.state(1, 3), 0);
    }

    /** ASK for 33 slots ends with 4: silent until 4 + 1 + 7 + 33. */
    private static void silentForTheMost() {
        SlotRadio radio = new SlotRadio(3);
        for (int i = 0; i < 4; i++) {
            radio.offer(0, 1, 8);
        }
        radio.run(5);
        DUE.is("silent behind the longest", radio.state(2, 3), 40);
    }

    /** "the frame that it sends into the next slot, too (0 none)": not with its last slot, nor when it is only due. */
    private static void sendsIntoTheNextSlotToo() {
        SlotRadio radio = Twins.asked(2);
        DUE.states("0 sends", radio, 0, 4, 0, 1, 0, 0, 0, 0, 0, 3, 0, 0);
        radio = Twins.asked(2);
        DUE.states("1 sends", radio, 1, 4, 0, 0, 0, 0, 2, 0, 0, 0, 0, 0, 4, 0);
    }

    /** DATA of 33 slots in 3 .. 35. */
    private static void longestFrame() {
        SlotRadio radio = new SlotRadio(2);
        radio.threshold(100);
        for (int i = 0; i < 4; i++) {
            radio.offer(0, 1, 8);
        }
        radio.run(3);
        DUE.states("0 sends", radio, 0, 4, 3, 3);
        radio.run(29);
        DUE.states("0 sends", radio, 0, 4, 3, 0, 0);
    }

    private static void keepsNoneAndTen() {
        DUE.is("keeps none", Twins.kept(0).state(0, 7), 0);
        DUE.is("keeps 10", Twins.kept(10).state(0, 7), 10);
        DUE.is("who is sent to keeps none", Twins.kept(10).state(1, 7), 0);
    }
}
