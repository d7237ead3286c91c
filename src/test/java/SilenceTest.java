/** Promise 7, points 1, 3 and 4: how long a station keeps silent, and what it does not do then. */
public final class SilenceTest {
    private static final Due DUE = new Due("SilenceTest");

    public static void main(String[] args) {
        afterAsk();
        afterAnswer();
        afterData();
        afterAcknowledge();
        theLaterOne();
        lostFramesSilenceNobody();
        silentStationsWait();
        DUE.end();
    }

    /** Station 0 asks in 3 and 4 for D slots; what else would be heard at 2 is lost as told. */
    private static SlotRadio askingRadio(int payloadSlots, int... lostAtTwo) {
        SlotRadio radio = new SlotRadio(3);
        radio.threshold(0);
        radio.offer(0, 1, payloadSlots);
        for (int slot : lostAtTwo) {
            radio.noise(2, slot, 1);
        }
        return radio;
    }

    private static void afterAsk() {
        for (int slots = 1; slots <= 8; slots++) {
            SlotRadio radio = askingRadio(slots);
            radio.run(5);
            DUE.is("after ASK for " + (slots + 1), radio.state(2, 3), 7 + slots + 1);
        }
    }

    private static void afterAnswer() {
        for (int slots = 1; slots <= 8; slots++) {
            SlotRadio radio = askingRadio(slots, 4);
            radio.run(7);
            DUE.is("before ANSWER ends", radio.state(2, 3), 0);
            radio.run(1);
            DUE.is("after ANSWER for " + (slots + 1), radio.state(2, 3), 4 + slots + 1);
        }
    }

    private static void afterData() {
        SlotRadio radio = askingRadio(2, 3, 7);
        radio.run(11);
        DUE.is("before DATA ends", radio.state(2, 3), 0);
        radio.run(1);
        DUE.is("after DATA", radio.state(2, 3), 3);
        SlotRadio headAlone = askingRadio(2, 3, 7, 10, 11);
        headAlone.run(12);
        DUE.is("after DATA of which the head alone was good", headAlone.state(2, 3), 3);
        SlotRadio noHead = askingRadio(2, 3, 7, 9);
        noHead.run(12);
        DUE.is("after DATA without its head", noHead.state(2, 3), 0);
    }

    private static void afterAcknowledge() {
        SlotRadio radio = askingRadio(1, 3, 6, 9);
        radio.run(14);
        DUE.is("after ACKNOWLEDGE", radio.state(2, 3), 0);
        DUE.is("it was received", radio.run(1) + radio.state(2, 6), 3);
    }

    /** ASK for 33 slots in 3 and 4: silent until 45. DATA of station 1, in 5 and 6, would end it at 10. */
    private static void theLaterOne() {
        SlotRadio radio = new SlotRadio(3);
        for (int i = 0; i < 4; i++) {
            radio.offer(0, 1, 8);
        }
        radio.hear(1, 0, false);
        radio.run(5);
        DUE.is("silent by the ASK", radio.state(2, 3), 40);
        radio.offer(1, 0, 1);
        radio.run(2);
        DUE.is("DATA was sent", radio.sent(1, 3), 1);
        DUE.is("silent by the ASK, still", radio.state(2, 3), 38);
    }

    private static void lostFramesSilenceNobody() {
        for (int slot = 3; slot <= 4; slot++) {
            SlotRadio radio = askingRadio(1, slot);
            radio.run(5);
            DUE.is("after an ASK that lost slot " + slot, radio.state(2, 3), 0);
        }
        SlotRadio deaf = askingRadio(1);
        deaf.hear(2, 0, false);
        deaf.run(5);
        DUE.is("who does not hear it", deaf.state(2, 3), 0);
    }

    /** Station 2 is silent until 14, counts 14 to 16 as idle, and begins in 17. */
    private static void silentStationsWait() {
        SlotRadio radio = askingRadio(1);
        radio.run(5);
        radio.hear(2, 0, false);
        radio.hear(2, 1, false);
        radio.offer(2, 1, 1);
        radio.run(9);
        DUE.is("silent: it was idle for 0", radio.state(2, 5), 0);
        DUE.states("silent no more", radio, 2, 5, 1, 2, 3);
        DUE.is("not yet", radio.sent(2, 1), 0);
        radio.run(1);
        DUE.is("begun", radio.sent(2, 1), 1);
    }
}
