/** Compares answers with those that are due and ends a test with exit code 1 if one was wrong. */
final class Due {
    /** So many wrong answers are shown: the first ones tell the most. */
    private static final int SHOWN = 40;

    private final String test;
    private int asked = 0;
    private int wrong = 0;

    Due(String test) {
        this.test = test;
    }

    void is(String call, long got, long want) {
        asked++;
        if (got != want) {
            wrong++;
            if (wrong > SHOWN) {
                return;
            }
            System.out.println(test + ": " + call + " answered " + got + ", due is " + want);
        }
    }

    /** All events of an object: a row {payload, kind, slot} for each, and none behind them. */
    void events(String when, SlotRadio radio, int[][] want) {
        for (int i = 0; i < want.length; i++) {
            for (int what = 0; what < 3; what++) {
                is(when + ": event(" + i + ", " + what + ")", radio.event(i, what), want[i][what]);
            }
        }
        is(when + ": event(" + want.length + ", 0)", radio.event(want.length, 0), SlotRadio.NONE);
    }

    /** One state of a station, slot after slot. */
    void states(String when, SlotRadio radio, int station, int what, int... want) {
        for (int i = 0; i < want.length; i++) {
            radio.run(1);
            is(when + ": state(" + station + ", " + what + ") at " + radio.now(), radio.state(station, what), want[i]);
        }
    }

    void end() {
        System.out.println(test + ": " + (asked - wrong) + " of " + asked + " answers are as due");
        if (asked == 0 || wrong > 0) {
            System.exit(1);
        }
    }
}
