/**
 * "REFUSALS are answers, of several the first one here: UNKNOWN (there is no such station), OUTSIDE (a number is not
 * as said), ROOM": each pair of them in one call, and all three. The state is full, so that there would be no room,
 * either. That refused calls change nothing is looked at by Twins in the tests of the calls.
 */
public final class EdgeRefusalsTest {
    private static final Due DUE = new Due("EdgeRefusalsTest");

    public static void main(String[] args) {
        hear();
        offerWhenTheStationIsFull();
        offerWhenAllIsFull();
        noise();
        state();
        sent();
        DUE.end();
    }

    private static void hear() {
        SlotRadio radio = new SlotRadio(3);
        DUE.is("UNKNOWN and OUTSIDE", radio.hear(3, 3, true), SlotRadio.UNKNOWN);
        DUE.is("UNKNOWN and OUTSIDE", radio.hear(-1, -1, false), SlotRadio.UNKNOWN);
        DUE.is("OUTSIDE alone", radio.hear(2, 2, true), SlotRadio.OUTSIDE);
    }

    private static void offerWhenTheStationIsFull() {
        SlotRadio radio = Twins.kept(10);
        DUE.is("UNKNOWN, OUTSIDE and ROOM", radio.offer(0, 3, 9), SlotRadio.UNKNOWN);
        DUE.is("UNKNOWN and ROOM", radio.offer(0, 3, 1), SlotRadio.UNKNOWN);
        DUE.is("OUTSIDE and ROOM", radio.offer(0, 0, 1), SlotRadio.OUTSIDE);
        DUE.is("OUTSIDE and ROOM", radio.offer(0, 1, 0), SlotRadio.OUTSIDE);
        DUE.is("OUTSIDE and ROOM", radio.offer(0, 1, 9), SlotRadio.OUTSIDE);
        DUE.is("ROOM alone", radio.offer(0, 1, 1), SlotRadio.ROOM);
    }

    private static void offerWhenAllIsFull() {
        SlotRadio radio = Twins.offered(300);
        DUE.is("UNKNOWN, OUTSIDE and ROOM", radio.offer(-1, -1, 9), SlotRadio.UNKNOWN);
        DUE.is("UNKNOWN and OUTSIDE", radio.offer(3, 3, 1), SlotRadio.UNKNOWN);
        DUE.is("UNKNOWN and ROOM", radio.offer(3, 0, 1), SlotRadio.UNKNOWN);
        DUE.is("OUTSIDE and ROOM", radio.offer(1, 1, 1), SlotRadio.OUTSIDE);
        DUE.is("OUTSIDE and ROOM", radio.offer(1, 2, 9), SlotRadio.OUTSIDE);
        DUE.is("ROOM alone", radio.offer(1, 2, 8), SlotRadio.ROOM);
    }

    private static void noise() {
        SlotRadio radio = Twins.noisy(40);
        DUE.is("UNKNOWN, OUTSIDE and ROOM", radio.noise(3, -1, 0), SlotRadio.UNKNOWN);
        DUE.is("UNKNOWN and ROOM", radio.noise(3, 0, 1), SlotRadio.UNKNOWN);
        DUE.is("OUTSIDE and ROOM", radio.noise(0, -1, 1), SlotRadio.OUTSIDE);
        DUE.is("OUTSIDE and ROOM", radio.noise(0, 1000001, 1), SlotRadio.OUTSIDE);
        DUE.is("OUTSIDE and ROOM", radio.noise(0, 0, 0), SlotRadio.OUTSIDE);
        DUE.is("OUTSIDE and ROOM", radio.noise(0, 0, 1001), SlotRadio.OUTSIDE);
        DUE.is("ROOM alone", radio.noise(0, 0, 1), SlotRadio.ROOM);
        DUE.is("UNKNOWN and OUTSIDE, with room", new SlotRadio(3).noise(3, 0, 0), SlotRadio.UNKNOWN);
    }

    private static void state() {
        SlotRadio radio = new SlotRadio(3);
        DUE.is("UNKNOWN and OUTSIDE", radio.state(3, 8), SlotRadio.UNKNOWN);
        DUE.is("UNKNOWN and OUTSIDE", radio.state(-1, -1), SlotRadio.UNKNOWN);
        DUE.is("OUTSIDE alone", radio.state(2, 8), SlotRadio.OUTSIDE);
    }

    private static void sent() {
        SlotRadio radio = new SlotRadio(3);
        DUE.is("UNKNOWN and OUTSIDE", radio.sent(3, 5), SlotRadio.UNKNOWN);
        DUE.is("UNKNOWN and OUTSIDE", radio.sent(-1, 0), SlotRadio.UNKNOWN);
        DUE.is("OUTSIDE alone", radio.sent(2, 5), SlotRadio.OUTSIDE);
    }
}
