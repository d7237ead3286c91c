import java.util.Random;

/**
 * The boundaries of promise 11, and of "An object is used for at most 512 calls": the 512th answers as due. What later
 * calls answer is free; by rule 7 of LANGUAGE.md they throw nothing, and end.
 */
public final class EdgeNowTest {
    private static final Due DUE = new Due("EdgeNowTest");

    public static void main(String[] args) {
        zeroAtFirst();
        refusedRunsTakeNoTime();
        theLatest();
        the512thCall();
        callsBehindThe512th();
        DUE.end();
    }

    /** "TIME is a number of slots, 0 at first". */
    private static void zeroAtFirst() {
        for (int stations = 2; stations <= 6; stations++) {
            SlotRadio radio = new SlotRadio(stations);
            DUE.is("at first", radio.now(), 0);
            DUE.is("asked again", radio.now(), 0);
            radio.run(1);
            DUE.is("behind slot 0", radio.now(), 1);
        }
    }

    private static void refusedRunsTakeNoTime() {
        SlotRadio radio = new SlotRadio(2);
        int[] wrong = {0, -1, 2001, Integer.MIN_VALUE, Integer.MAX_VALUE};
        for (int n : wrong) {
            radio.run(n);
            DUE.is("behind run(" + n + ")", radio.now(), 0);
        }
        radio.run(2000);
        radio.run(2001);
        DUE.is("behind run(2000)", radio.now(), 2000);
    }

    /** 511 calls of run(2000) are the most slots that can pass before an answer. */
    private static void theLatest() {
        DUE.is("now", behind511Runs().now(), 511 * 2000);
        DUE.is("idle", behind511Runs().state(0, 5), 511 * 2000);
        DUE.is("silent", behind511Runs().state(1, 3), 0);
    }

    private static SlotRadio behind511Runs() {
        SlotRadio radio = new SlotRadio(2);
        for (int i = 0; i < 511; i++) {
            radio.run(2000);
        }
        return radio;
    }

    /** The last slots of an object: a payload that is offered in 510 * 2000 with call 511 goes with call 512. */
    private static void the512thCall() {
        SlotRadio radio = new SlotRadio(2);
        for (int i = 0; i < 510; i++) {
            radio.run(2000);
        }
        DUE.is("call 511", radio.offer(0, 1, 1), 1);
        DUE.is("call 512", radio.run(2000), 2);
        SlotRadio told = new SlotRadio(2);
        for (int i = 0; i < 509; i++) {
            told.run(2000);
        }
        told.offer(0, 1, 1);
        told.run(2000);
        DUE.is("the latest slot that an event can tell", told.event(0, 2), 509 * 2000 + 1);
    }

    private static void callsBehindThe512th() {
        Random random = new Random(512);
        SlotRadio radio = new SlotRadio(6);
        int[] numbers = {Integer.MIN_VALUE, -1, 0, 1, 2, 3, 4, 5, 6, 8, 2000, Integer.MAX_VALUE};
        int ended = 0;
        for (int i = 0; i < 5000; i++) {
            int a = numbers[random.nextInt(numbers.length)];
            int b = numbers[random.nextInt(numbers.length)];
            int c = numbers[random.nextInt(numbers.length)];
            radio.hear(a, b, c > 0);
            radio.coin(a);
            radio.threshold(b);
            radio.offer(a, b, c);
            radio.noise(a, b, c);
            radio.run(a);
            radio.event(i, c);
            radio.state(a, b);
            radio.sent(a, b);
            radio.now();
            ended++;
        }
        DUE.is("rounds of calls that ended", ended, 5000);
    }
}
