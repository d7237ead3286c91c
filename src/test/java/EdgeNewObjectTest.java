/** The boundaries of promise 1, and of "STATIONS 0 .. S - 1" in every call that takes a station. */
public final class EdgeNewObjectTest {
    private static final Due DUE = new Due("EdgeNewObjectTest");

    public static void main(String[] args) {
        tooFewAreBroughtToTwo();
        allowedAreAsTold();
        tooManyAreBroughtToSix();
        firstAndLastStationOfEveryCall();
        noStationBelowTheFirst();
        noStationBehindTheLast();
        DUE.end();
    }

    /** "So many stations, brought to 2 .. 6": from below. */
    private static void tooFewAreBroughtToTwo() {
        int[] told = {1, 0, -1, -2, -6, Integer.MIN_VALUE};
        for (int stations : told) {
            hasStations(stations, 2);
        }
    }

    /** "So many stations, brought to 2 .. 6": 2 and 6 are the last that are as told. */
    private static void allowedAreAsTold() {
        for (int stations = 2; stations <= 6; stations++) {
            hasStations(stations, stations);
        }
    }

    /** "So many stations, brought to 2 .. 6": from above. */
    private static void tooManyAreBroughtToSix() {
        int[] told = {7, 8, 32, 33, 64, 1000, Integer.MAX_VALUE};
        for (int stations : told) {
            hasStations(stations, 6);
        }
    }

    private static void hasStations(int told, int want) {
        SlotRadio radio = new SlotRadio(told);
        for (int station = 0; station < want; station++) {
            DUE.is("SlotRadio(" + told + ") has station " + station, radio.state(station, 0), 3);
        }
        DUE.is("SlotRadio(" + told + ") ends before " + want, radio.state(want, 0), SlotRadio.UNKNOWN);
    }

    private static void firstAndLastStationOfEveryCall() {
        for (int stations = 2; stations <= 6; stations++) {
            SlotRadio radio = new SlotRadio(stations);
            int last = stations - 1;
            String of = " of " + stations;
            DUE.is("hear, last and first" + of, radio.hear(last, 0, false), 1);
            DUE.is("hear, first and last" + of, radio.hear(0, last, false), 1);
            DUE.is("offer, last to first" + of, radio.offer(last, 0, 1), 1);
            DUE.is("offer, first to last" + of, radio.offer(0, last, 1), 2);
            DUE.is("noise at the last" + of, radio.noise(last, 0, 1), 1);
            DUE.is("noise at the first" + of, radio.noise(0, 0, 1), 2);
            DUE.is("state of the last" + of, radio.state(last, 7), 1);
            DUE.is("state of the first" + of, radio.state(0, 7), 1);
            DUE.is("sent by the last" + of, radio.sent(last, 1), 0);
            DUE.is("sent by the first" + of, radio.sent(0, 1), 0);
        }
    }

    private static void noStationBelowTheFirst() {
        for (int stations = 2; stations <= 6; stations++) {
            isUnknownIn(stations, -1);
            isUnknownIn(stations, Integer.MIN_VALUE);
        }
    }

    private static void noStationBehindTheLast() {
        for (int stations = 2; stations <= 6; stations++) {
            isUnknownIn(stations, stations);
            isUnknownIn(stations, Integer.MAX_VALUE);
        }
    }

    /** Here for every number of stations; that nothing changes is looked at in the tests of the calls. */
    private static void isUnknownIn(int stations, int wrong) {
        SlotRadio radio = new SlotRadio(stations);
        String of = wrong + " of " + stations;
        DUE.is("hear, station " + of, radio.hear(wrong, 0, false), SlotRadio.UNKNOWN);
        DUE.is("hear, other " + of, radio.hear(0, wrong, false), SlotRadio.UNKNOWN);
        DUE.is("offer from " + of, radio.offer(wrong, 0, 1), SlotRadio.UNKNOWN);
        DUE.is("offer to " + of, radio.offer(0, wrong, 1), SlotRadio.UNKNOWN);
        DUE.is("noise at " + of, radio.noise(wrong, 0, 1), SlotRadio.UNKNOWN);
        DUE.is("state of " + of, radio.state(wrong, 0), SlotRadio.UNKNOWN);
        DUE.is("sent by " + of, radio.sent(wrong, 1), SlotRadio.UNKNOWN);
    }
}
