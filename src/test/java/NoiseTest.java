/** Promise 6: noise. */
public final class NoiseTest {
    private static final Due DUE = new Due("NoiseTest");

    public static void main(String[] args) {
        answers();
        whichSlots();
        whichStation();
        noiseIsNotBusy();
        DUE.end();
    }

    private static void answers() {
        SlotRadio radio = new SlotRadio(3);
        DUE.is("the first row", radio.noise(0, 0, 1), 1);
        DUE.is("the same again", radio.noise(0, 0, 1), 2);
        DUE.is("another station", radio.noise(2, 1000000, 1000), 3);
        radio.run(10);
        DUE.is("rows that are over count", radio.noise(1, 10, 5), 4);
    }

    /** DATA has slots 3 .. 7: its head, then payloads 1 to 4. One row of noise takes what it covers. */
    private static void whichSlots() {
        for (int from = 0; from <= 9; from++) {
            for (int n = 1; n <= 3; n++) {
                SlotRadio radio = new SlotRadio(2);
                for (int i = 0; i < 4; i++) {
                    radio.offer(0, 1, 1);
                }
                radio.noise(1, from, n);
                radio.run(11);
                boolean head = from > 3 || from + n <= 3;
                int left = 0;
                for (int slot = 4; slot <= 7; slot++) {
                    left += !head || slot >= from && slot < from + n ? 1 : 0;
                }
                DUE.is("kept after noise " + from + " + " + n, radio.state(0, 7), left);
            }
        }
    }

    private static void whichStation() {
        SlotRadio radio = new SlotRadio(3);
        radio.offer(0, 1, 1);
        radio.noise(2, 0, 20);
        DUE.is("noise elsewhere", radio.run(8), 2);
        DUE.is("who has noise does not fall silent", radio.state(2, 3), 0);
        radio = new SlotRadio(3);
        radio.offer(0, 1, 1);
        radio.noise(0, 3, 3);
        DUE.is("noise where one sends", radio.run(8), 2);
        radio = new SlotRadio(3);
        radio.offer(0, 1, 1);
        radio.noise(0, 7, 1);
        DUE.is("noise where one waits", radio.run(8), 1);
        radio.run(1);
        DUE.is("noise where one waits: tries", radio.state(0, 2), 1);
    }

    private static void noiseIsNotBusy() {
        SlotRadio radio = new SlotRadio(2);
        radio.noise(0, 0, 10);
        radio.run(5);
        DUE.is("idle in noise", radio.state(0, 5), 5);
    }
}
