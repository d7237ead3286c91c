/** Promise 5: payloads. */
public final class OfferTest {
    private static final Due DUE = new Due("OfferTest");

    public static void main(String[] args) {
        answers();
        atMost300();
        lengths();
        countsAreDrawn();
        DUE.end();
    }

    private static void answers() {
        SlotRadio radio = new SlotRadio(3);
        DUE.is("the first", radio.offer(2, 1, 1), 1);
        DUE.is("the second", radio.offer(0, 1, 8), 2);
        DUE.is("the third", radio.offer(2, 0, 4), 3);
        DUE.is("kept by 2", radio.state(2, 7), 2);
        DUE.is("kept by 0", radio.state(0, 7), 1);
        DUE.is("kept by 1", radio.state(1, 7), 0);
    }

    private static void atMost300() {
        SlotRadio radio = new SlotRadio(6);
        int offered = 0;
        for (int round = 0; round < 6; round++) {
            for (int i = 0; i < 50; i++) {
                int from = i % 6;
                offered++;
                DUE.is("offer " + offered, radio.offer(from, (from + 1) % 6, 1), offered);
            }
            radio.run(2000);
        }
        for (int station = 0; station < 6; station++) {
            DUE.is("kept by " + station, radio.state(station, 7), 0);
            DUE.is("the 301st", radio.offer(station, (station + 1) % 6, 1), SlotRadio.ROOM);
        }
        DUE.is("the 301st, OUTSIDE", radio.offer(0, 1, 0), SlotRadio.OUTSIDE);
        DUE.is("still none is kept", radio.state(0, 7), 0);
    }

    /** DATA begins in slot 3 and has one slot for its head. */
    private static void lengths() {
        for (int slots = 1; slots <= 8; slots++) {
            SlotRadio radio = new SlotRadio(2);
            radio.offer(1, 0, slots);
            radio.run(20);
            int end = 3 + slots;
            DUE.events("a payload of " + slots, radio, new int[][] {{1, 1, end}, {1, 3, end + 3}});
        }
    }

    private static void countsAreDrawn() {
        SlotRadio radio = new SlotRadio(2);
        radio.coin(3);
        radio.coin(2);
        radio.coin(1);
        radio.offer(0, 1, 1);
        radio.offer(0, 1, 1);
        DUE.is("drawn with the first alone", radio.state(0, 1), 3);
        radio.run(20);
        DUE.is("all went", radio.state(0, 7), 0);
        radio.offer(0, 1, 1);
        DUE.is("drawn when it keeps none again", radio.state(0, 1), 2);
    }
}
