/** Promise 6: noise. */
public final class NoiseTest {
    private static final Due DUE = new Due("NoiseTest");

    public static void main(String[] args) {
        answers();
        refusals();
        atMost40();
        whichSlots();
        whichStation();
        noiseIsNotBusy();
        DUE.end();
    }

    private static void answers() {
        SlotRadio radio = new SlotRadio(3);
        DUE.is("the first row", radio.noise(0, 0, 1), 1);
        DUE.is("the same again", radio.noise(0, 0, 1), 2);
        DUE.is("another station", radio.noise(2, 1000000, 1000), 3);
        radio.run(10);
        DUE.is("rows that are over count", radio.noise(1, 10, 5), 4);
    }

    private static void refusals() {
        SlotRadio radio = new SlotRadio(3);
        radio.run(10);
        int[] wrong = {-1, 3, Integer.MIN_VALUE, Integer.MAX_VALUE};
        for (int station : wrong) {
            DUE.is("at " + station, radio.noise(station, 10, 1), SlotRadio.UNKNOWN);
            DUE.is("at " + station + ", too early", radio.noise(station, 0, 0), SlotRadio.UNKNOWN);
        }
        long[] times = {9, 0, -1, 1000001, Long.MIN_VALUE, Long.MAX_VALUE, 10L + (1L << 32)};
        for (long from : times) {
            DUE.is("from " + from, radio.noise(0, from, 1), SlotRadio.OUTSIDE);
        }
        int[] lengths = {0, -1, 1001, Integer.MIN_VALUE, Integer.MAX_VALUE};
        for (int n : lengths) {
            DUE.is("of " + n, radio.noise(0, 10, n), SlotRadio.OUTSIDE);
        }
        DUE.is("from now", radio.noise(0, 10, 1), 1);
        DUE.is("the last and longest", radio.noise(0, 1000000, 1000), 2);
    }

    private static void atMost40() {
        SlotRadio radio = new SlotRadio(2);
        for (int i = 1; i <= 40; i++) {
            DUE.is("row " + i, radio.noise(1, 2 * i, 1), i);
        }
        DUE.is("row 41", radio.noise(1, 100, 1), SlotRadio.ROOM);
        DUE.is("row 41 at another station", radio.noise(0, 100, 1), SlotRadio.ROOM);
        DUE.is("of several UNKNOWN", radio.noise(2, 100, 0), SlotRadio.UNKNOWN);
        DUE.is("of several OUTSIDE", radio.noise(1, 100, 0), SlotRadio.OUTSIDE);
        radio.run(200);
        DUE.is("room does not come back", radio.noise(1, 300, 1), SlotRadio.ROOM);
    }

    /** DATA has slots 3 .. 7: its head, then payloads 1 to 4. One row of noise takes what it covers. */
    private static void whichSlots() {
        for (int from = 0; from <= 9; from++) {
            for (int n = 1; n <= 3; n++) {
                SlotRadio radio = new SlotRadio(2);
                for (int i = 0; i < 4; i++) {
                    radio.offer(0, 1, 1);
                }
                radio.noise(1, from, n);
                radio.run(11);
                boolean head = from > 3 || from + n <= 3;
                int left = 0;
                for (int slot = 4; slot <= 7; slot++) {
                    left += !head || slot >= from && slot < from + n ? 1 : 0;
                }
                DUE.is("kept after noise " + from + " + " + n, radio.state(0, 7), left);
            }
        }
    }

    private static void whichStation() {
        SlotRadio radio = new SlotRadio(3);
        radio.offer(0, 1, 1);
        radio.noise(2, 0, 20);
        DUE.is("noise elsewhere", radio.run(8), 2);
        DUE.is("who has noise does not fall silent", radio.state(2, 3), 0);
        radio = new SlotRadio(3);
        radio.offer(0, 1, 1);
        radio.noise(0, 3, 3);
        DUE.is("noise where one sends", radio.run(8), 2);
        radio = new SlotRadio(3);
        radio.offer(0, 1, 1);
        radio.noise(0, 7, 1);
        DUE.is("noise where one waits", radio.run(8), 1);
        radio.run(1);
        DUE.is("noise where one waits: tries", radio.state(0, 2), 1);
    }

    private static void noiseIsNotBusy() {
        SlotRadio radio = new SlotRadio(2);
        radio.noise(0, 0, 10);
        radio.run(5);
        DUE.is("idle in noise", radio.state(0, 5), 5);
    }
}
