/** Promise 9: what is told of a station. What each number does as slots pass stands in the tests of promise 7. */
public final class StateTest {
    private static final Due DUE = new Due("StateTest");

    public static void main(String[] args) {
        inAFrame();
        afterAFailure();
        asksChangeNothing();
        DUE.end();
    }

    /** DATA of 0 in 3 .. 6, ACKNOWLEDGE of 1 in 8 and 9; 1 keeps a payload, too, with count 3. */
    private static void inAFrame() {
        SlotRadio radio = new SlotRadio(3);
        radio.coin(0);
        radio.coin(3);
        radio.offer(0, 1, 1);
        radio.offer(0, 1, 2);
        radio.offer(1, 0, 1);
        radio.run(4);
        all("0 sends", radio, 0, 3, 0, 0, 0, 3, 0, 3, 2);
        all("1 hears", radio, 1, 3, 3, 0, 0, 0, 0, 3, 1);
        radio.run(3);
        all("0 waits", radio, 0, 3, 0, 0, 0, 0, 0, 3, 2);
        all("1 has a frame due", radio, 1, 3, 3, 0, 0, 0, 0, 3, 1);
        all("2 is silent", radio, 2, 3, 0, 0, 3, 0, 0, 3, 0);
        radio.run(2);
        all("1 acknowledges", radio, 1, 3, 3, 0, 0, 4, 0, 3, 1);
        all("2 is silent still", radio, 2, 3, 0, 0, 1, 0, 0, 3, 0);
        radio.run(5);
        all("0 is idle", radio, 0, 3, 0, 0, 0, 0, 4, 3, 0);
        all("1 counts", radio, 1, 3, 2, 0, 0, 0, 4, 3, 1);
        all("2 is idle", radio, 2, 3, 0, 0, 0, 0, 4, 3, 0);
    }

    private static void afterAFailure() {
        SlotRadio radio = new SlotRadio(2);
        radio.coin(0);
        radio.coin(13);
        radio.noise(1, 3, 1);
        radio.offer(0, 1, 1);
        radio.run(9);
        all("0 failed", radio, 0, 7, 5, 1, 0, 0, 1, 3, 1);
        all("1 lost a frame", radio, 1, 3, 0, 0, 0, 0, 4, 6, 0);
    }

    private static void asksChangeNothing() {
        SlotRadio radio = new SlotRadio(2);
        radio.offer(0, 1, 1);
        for (int slot = 0; slot < 8; slot++) {
            for (int what = 0; what < 8; what++) {
                radio.state(0, what);
                radio.state(1, what);
            }
            radio.run(1);
        }
        DUE.events("as without asking", radio, new int[][] {{1, 1, 4}, {1, 3, 7}});
    }

    private static void all(String when, SlotRadio radio, int station, int... want) {
        for (int what = 0; what < want.length; what++) {
            DUE.is(when + ": state(" + station + ", " + what + ")", radio.state(station, what), want[what]);
        }
    }
}
