/** Rows that are full: a terminal's with 8 frames, the exchange's with 24; a frame is dropped, all else is as ever. */
public final class FullRowsTest {
    public static void main(String[] args) {
        Due due = new Due();
        terminalRowGrows(due);
        dialAtAFullRow(due);
        answerAtAFullRow(due);
        hangAtAFullRow(due);
        offerAtAFullRow(due);
        checkAtAFullRow(due);
        releaseAtAFullRow(due);
        linkLostWithAFullRow(due);
        unplugWithAFullRow(due);
        exchangeRowGrows(due);
        checkDropped(due);
        giveDropped(due);
        offerDropped(due);
        secondOfferDropped(due);
        grantDropped(due);
        connectDropped(due);
        doneDropped(due);
        releaseOfTheCalledDropped(due);
        releaseOfTheCallerDropped(due);
        due.end();
    }

    /** Socket 0 of bus 0 has 64; sockets 0 and 1 of bus 1 both have 64, and all that goes to it. */
    private static PassiveBuses rigOfTwins() {
        PassiveBuses x = new PassiveBuses();
        x.plug(0, 0, 0);
        x.plug(1, 0, 9);
        x.plug(1, 1, 9);
        x.run(3);
        return x;
    }

    /**
     * Socket 0 of bus 1 is NULL and has 6 frames in its row, its twin 1: what the twin sends brings a RELEASE for both,
     * so that socket 0 can begin another call before it has sent what it put in the one before.
     */
    private static PassiveBuses rigWithSix() {
        PassiveBuses x = rigOfTwins();
        x.dial(1, 0, 9);
        x.hang(1, 0);
        x.run(1);
        x.dial(0, 0, 1);
        x.run(1);
        x.hang(0, 0);
        x.answer(1, 0);
        x.hang(1, 0);
        x.run(1);
        return x;
    }

    /** Socket 0 of bus 1 is NULL and has 7 frames in its row, its twin 2; with an audit 8, its twin 3. */
    private static PassiveBuses rigWithSevenOrEight(boolean audited) {
        PassiveBuses x = rigOfTwins();
        x.dial(1, 0, 9);
        x.hang(1, 0);
        x.spoil(1, true, 1);
        x.run(1);
        x.dial(0, 0, 1);
        x.run(1);
        x.hang(0, 0);
        x.answer(1, 0);
        x.hang(1, 0);
        if (audited) {
            x.audit(1, 64);
        }
        x.spoil(1, true, 0);
        x.run(3);
        return x;
    }

    private static void terminalRowGrows(Due due) {
        due.in("a terminal's row takes 8 frames and no more");
        PassiveBuses x = rigWithSix();
        due.states(x, 1, 0, 0);
        due.waiting(x, 1, 6 + 1, 0);
        due.yes("dial", x.dial(1, 0, 9));
        due.waiting(x, 1, 7 + 1, 0);
        due.yes("hang", x.hang(1, 0));
        due.waiting(x, 1, 8 + 1, 0);

        x = rigWithSevenOrEight(false);
        due.states(x, 1, 0, 0);
        due.waiting(x, 1, 7 + 2, 0);
        due.yes("dial", x.dial(1, 0, 9));
        due.waiting(x, 1, 8 + 2, 0);
        due.yes("hang", x.hang(1, 0));
        due.waiting(x, 1, 8 + 2, 0);
    }

    private static void dialAtAFullRow(Due due) {
        due.in("dial with 7 in the row: SETUP is the eighth");
        PassiveBuses x = rigWithSevenOrEight(false);
        due.yes("dial", x.dial(1, 0, 7));
        due.states(x, 1, 1);
        due.waiting(x, 1, 8 + 2, 0);
        x.run(60);
        due.states(x, 1, 0);
        due.causes(x, 1, 1);

        due.in("dial with 8 in the row: SETUP is dropped, it is CALLING all the same");
        x = rigWithSevenOrEight(true);
        due.waiting(x, 1, 8 + 3, 0);
        due.yes("dial", x.dial(1, 0, 7));
        due.states(x, 1, 1);
        due.is("reference(1, 0)", x.reference(1, 0), 3);
        due.waiting(x, 1, 8 + 3, 0);
        due.no("dial again", x.dial(1, 0, 7));
        x.run(60);
        due.states(x, 1, 1);
        due.waiting(x, 1, 0, 0);
        due.phases(x, 0, 0);

        due.in("the dial whose SETUP was dropped counts");
        x.hang(1, 0);
        x.run(4);
        due.states(x, 1, 0);
        x.dial(1, 0, 7);
        due.is("reference(1, 0)", x.reference(1, 0), 5);
    }

    /** Socket 0 of bus 1 rings and has 7 frames in its row, its twin 2. */
    private static PassiveBuses rigRingingWithSeven() {
        PassiveBuses x = rigWithSix();
        x.dial(0, 0, 1);
        x.spoil(1, true, 0);
        x.run(1);
        return x;
    }

    private static void answerAtAFullRow(Due due) {
        due.in("answer with 7 in the row: CONNECT is the eighth");
        PassiveBuses x = rigRingingWithSeven();
        due.states(x, 1, 4, 4);
        due.waiting(x, 1, 7 + 2, 0);
        due.yes("answer", x.answer(1, 0));
        due.states(x, 1, 5, 4);
        due.waiting(x, 1, 8 + 2, 0);

        due.in("answer with 8 in the row: CONNECT is dropped, it is CONNECTING all the same");
        x = rigWithSevenOrEight(true);
        x.dial(0, 0, 1);
        x.run(1);
        due.states(x, 1, 4, 4);
        due.waiting(x, 1, 8 + 3, 0);
        due.yes("answer", x.answer(1, 0));
        due.states(x, 1, 5, 4);
        due.waiting(x, 1, 8 + 3, 0);
        due.no("answer again", x.answer(1, 0));
        x.run(30);
        due.waiting(x, 1, 0, 0);
        due.states(x, 1, 5, 4);
        due.phases(x, 0, 2);
    }

    private static void hangAtAFullRow(Due due) {
        due.in("hang with 7 in the row: RELEASE is the eighth");
        PassiveBuses x = rigRingingWithSeven();
        due.yes("hang", x.hang(1, 0));
        due.states(x, 1, 7, 4);
        due.waiting(x, 1, 8 + 2, 0);

        due.in("hang with 8 in the row: RELEASE is dropped, it is CLEARING all the same");
        x = rigRingingWithSeven();
        x.answer(1, 0);
        due.waiting(x, 1, 8 + 2, 0);
        due.yes("hang", x.hang(1, 0));
        due.states(x, 1, 7, 4);
        due.waiting(x, 1, 8 + 2, 0);
        due.no("hang again", x.hang(1, 0));
    }

    private static void offerAtAFullRow(Due due) {
        due.in("OFFER with 7 in the row: ALERT is the eighth");
        PassiveBuses x = rigWithSevenOrEight(false);
        x.dial(0, 0, 1);
        // In that tick the twin sends one and puts its own ALERT.
        due.ticks(x, 4);
        due.states(x, 1, 4, 4);
        due.waiting(x, 1, 8 + 2, 0);

        due.in("OFFER with 8 in the row: ALERT is dropped, it is RINGING all the same");
        x = rigWithSevenOrEight(true);
        x.dial(0, 0, 1);
        due.ticks(x, 4);
        due.states(x, 1, 4, 4);
        due.is("reference(1, 0)", x.reference(1, 0), 4);
        due.waiting(x, 1, 8 + 3, 0);
    }

    private static void checkAtAFullRow(Due due) {
        due.in("CHECK with 7 in the row: REPLY is the eighth");
        PassiveBuses x = rigWithSevenOrEight(false);
        x.audit(1, 64);
        // In that tick the twin sends one and puts its own REPLY.
        due.ticks(x, 2);
        due.waiting(x, 1, 8 + 2, 0);

        due.in("CHECK with 8 in the row: REPLY is dropped");
        x = rigWithSevenOrEight(false);
        x.dial(1, 0, 9);
        due.waiting(x, 1, 8 + 2, 0);
        x.audit(1, 64);
        due.ticks(x, 2);
        due.waiting(x, 1, 8 + 2, 0);
        due.states(x, 1, 1, 0);
    }

    private static void releaseAtAFullRow(Due due) {
        due.in("RELEASE with 7 in the row: DONE is the eighth");
        PassiveBuses x = rigOfTwins();
        x.dial(1, 0, 9);
        x.hang(1, 0);
        x.spoil(1, true, 1);
        x.run(1);
        x.dial(0, 0, 1);
        x.run(1);
        x.hang(0, 0);
        x.answer(1, 0);
        x.hang(1, 0);
        x.audit(1, 64);
        x.spoil(1, true, 0);
        x.run(1);
        due.states(x, 1, 7, 4);
        due.waiting(x, 1, 7 + 2, 0);
        due.ticks(x, 2);
        due.states(x, 1, 0, 0);
        due.waiting(x, 1, 8 + 2, 0);
        due.causes(x, 1, 5, 5);

        due.in("RELEASE with 8 in the row: DONE is dropped, it is NULL and keeps the cause all the same");
        x = rigWithSevenOrEight(true);
        x.run(2);
        x.spoil(1, true, 0);
        x.run(1);
        x.dial(0, 0, 1);
        due.ticks(x, 4, 2, 1);
        due.states(x, 1, 4, 4);
        due.waiting(x, 1, 8, 0);
        due.phases(x, 0, 2);
        x.hang(0, 0);
        x.spoil(1, true, 0);
        due.ticks(x, 4);
        due.states(x, 1, 0, 0);
        due.is("channel(1, 0)", x.channel(1, 0), -1);
        due.causes(x, 1, 6, 6);
        due.waiting(x, 1, 8 + 1, 0);
        due.phases(x, 0, 4);
    }

    private static void linkLostWithAFullRow(Due due) {
        due.in("a link lost with a full row: the row is emptied, REQUEST is put");
        PassiveBuses x = rigWithSevenOrEight(true);
        x.unplug(1, 1);
        due.waiting(x, 1, 8, 0);
        for (int i = 0; i < 3; i++) {
            x.spoil(1, true, 0);
            due.ticks(x, 1);
        }
        due.waiting(x, 1, 1, 0);
        due.is("address(1, 0)", x.address(1, 0), 10 * 128 + 2048);
    }

    private static void unplugWithAFullRow(Due due) {
        due.in("unplug takes all that waits in the row");
        PassiveBuses x = rigWithSevenOrEight(true);
        due.waiting(x, 1, 8 + 3, 0);
        due.yes("unplug", x.unplug(1, 0));
        due.waiting(x, 1, 3, 0);
        x.plug(1, 0, 2);
        due.waiting(x, 1, 1 + 3, 0);
    }

    /** Sockets 0 and 1 of bus 0 have 64 and 65; with it, socket 0 of bus 1 has 64 there. */
    private static PassiveBuses rigBeforeFilling(boolean withSocket0) {
        PassiveBuses x = new PassiveBuses();
        x.plug(0, 0, 0);
        x.plug(0, 1, 1);
        if (withSocket0) {
            x.plug(1, 0, 0);
        }
        x.run(3);
        return x;
    }

    /**
     * Fills the exchange's row for bus 1 up to 21 frames, the first of which has failed once. Sockets 1 to 3 of bus 1
     * are plugged in for it. Two acknowledgements of three are spoilt, so that little goes out of the row, while socket
     * 0 of bus 0 begins and ends one call after the other and sockets 1 to 3 answer them too late, or dial in vain.
     * Before the tick dialsAt (or never, if it is negative) socket 1 of bus 0 begins a call that stays.
     */
    private static void fill(Due due, PassiveBuses x, int dialsAt) {
        for (int socket = 1; socket < 4; socket++) {
            x.plug(1, socket, socket);
        }
        x.run(x.state(1, 0) == -1 ? 4 : 3);
        for (int tick = 0; tick < 32; tick++) {
            for (int socket = 1; socket < 4 && tick % 12 == 0; socket++) {
                x.answer(1, socket);
                x.hang(1, socket);
                x.dial(1, socket, 9);
                x.hang(1, socket);
            }
            if (tick == dialsAt) {
                x.dial(0, 1, 1);
            }
            if (tick % 2 == 1) {
                x.dial(0, 0, 1);
            } else {
                x.hang(0, 0);
            }
            if (tick % 3 != 0) {
                x.spoil(1, false, 1);
            }
            x.run(1);
        }
        due.is("waiting(1, false) after filling", x.waiting(1, false), 21);
    }

    /** Audits put their CHECKs at once: up to 23 or 24 frames. */
    private static void fillUp(Due due, PassiveBuses x, int size, int firstAddress) {
        for (int address = firstAddress; address < firstAddress + size - 21; address++) {
            due.yes("audit", x.audit(1, address));
        }
        due.is("waiting(1, false)", x.waiting(1, false), size);
    }

    /** A tick in which the first frame of the exchange's row for bus 1 fails, and stays. */
    private static void tickThatHolds(PassiveBuses x) {
        x.spoil(1, false, 1);
        x.run(1);
    }

    private static void exchangeRowGrows(Due due) {
        due.in("the exchange's row takes 24 frames and no more");
        PassiveBuses x = rigTalking(due, 21);
        for (int size = 22; size <= 24; size++) {
            due.yes("audit", x.audit(1, 43 + size));
            due.is("waiting(1, false)", x.waiting(1, false), size);
        }
        due.yes("audit", x.audit(1, 64));
        due.is("waiting(1, false)", x.waiting(1, false), 24);
        due.is("waiting(0, false)", x.waiting(0, false), 0);
    }

    private static void checkDropped(Due due) {
        for (int size = 23; size <= 24; size++) {
            due.in("audit with " + size + " in the row: CHECK");
            PassiveBuses x = rigTalking(due, size);
            due.yes("audit", x.audit(1, 64));
            due.is("waiting(1, false)", x.waiting(1, false), 24);
            due.no("audit again", x.audit(1, 64));
            x.run(7);
            due.is("given(1)", x.given(1), 15);
            due.phases(x, 3);
            // All CHECKs of the last rows come too late, if at all, so that all audits end with count 0.
            x.run(1);
            due.is("given(1)", x.given(1), size == 23 ? 8 : 0);
            due.phases(x, 4);
        }
    }

    private static void giveDropped(Due due) {
        for (int size = 23; size <= 24; size++) {
            due.in("REQUEST with " + size + " in the row");
            PassiveBuses x = rigBeforeFilling(false);
            fill(due, x, -1);
            fillUp(due, x, size, 64);
            due.is("given(1)", x.given(1), 7);
            x.plug(1, 0, 5);
            tickThatHolds(x);
            due.is("given(1)", x.given(1), 15);
            due.is("waiting(1, false)", x.waiting(1, false), 24);
            due.is("address(1, 0)", x.address(1, 0), 5 * 128 + 2048);
        }
    }

    private static void offerDropped(Due due) {
        for (int size = 23; size <= 24; size++) {
            due.in("SETUP with " + size + " in the row of the called bus");
            PassiveBuses x = rigBeforeFilling(false);
            fill(due, x, -1);
            fillUp(due, x, size, 64);
            due.holders(x, 0, 16, 0);
            due.yes("dial", x.dial(0, 1, 1));
            tickThatHolds(x);
            due.is("waiting(1, false)", x.waiting(1, false), 24);
            due.is("phase(17)", x.phase(17), 1);
            due.holders(x, 0, 16, 17);
            due.holders(x, 1, 16, 17);
            due.states(x, 0, 2, 2);
            x.run(18);
            due.is("phase(17)", x.phase(17), 1);
            x.run(1);
            due.is("phase(17)", x.phase(17), 4);
        }
    }

    private static void secondOfferDropped(Due due) {
        for (int size = 23; size <= 24; size++) {
            due.in("a call is offered again with " + size + " in the row");
            PassiveBuses x = rigBeforeFilling(false);
            fill(due, x, 23);
            fillUp(due, x, size, 64);
            due.is("phase(12)", x.phase(12), 1);
            tickThatHolds(x);
            due.is("waiting(1, false)", x.waiting(1, false), 24);
            x.run(9);
            due.is("phase(12)", x.phase(12), 1);
            x.run(1);
            due.is("phase(12)", x.phase(12), 4);
            due.states(x, 0, 2, 2);
            x.run(1);
            due.is("cause(0, 1)", x.cause(0, 1), 8);
        }
    }

    /** Socket 1 of bus 0 has called, socket 0 of bus 1 rings; the exchange's row for bus 1 has as many frames as said. */
    private static PassiveBuses rigRinging(Due due, int size) {
        PassiveBuses x = rigBeforeFilling(true);
        x.dial(0, 1, 1);
        x.run(3);
        fill(due, x, -1);
        fillUp(due, x, size, 65);
        due.phases(x, 2);
        return x;
    }

    /** The same, but both are ACTIVE. */
    private static PassiveBuses rigTalking(Due due, int size) {
        PassiveBuses x = rigBeforeFilling(true);
        x.dial(0, 1, 1);
        x.run(3);
        x.answer(1, 0);
        x.run(2);
        fill(due, x, -1);
        fillUp(due, x, size, 65);
        due.phases(x, 3);
        return x;
    }

    /** Socket 0 of bus 1 has called, socket 1 of bus 0 rings; else the same. */
    private static PassiveBuses rigRingingOnBus0(Due due, int size) {
        PassiveBuses x = rigBeforeFilling(true);
        x.dial(1, 0, 0);
        x.run(3);
        x.hang(0, 0);
        x.run(2);
        fill(due, x, -1);
        fillUp(due, x, size, 65);
        due.phases(x, 2);
        return x;
    }

    private static void grantDropped(Due due) {
        for (int size = 23; size <= 24; size++) {
            due.in("CONNECT with " + size + " in the row: GRANT");
            PassiveBuses x = rigRinging(due, size);
            due.yes("answer", x.answer(1, 0));
            tickThatHolds(x);
            due.is("waiting(1, false)", x.waiting(1, false), 24);
            due.phases(x, 3);
            due.holders(x, 0, 1, 17);
            due.holders(x, 1, 1, 17);
            due.is("state(1, 0)", x.state(1, 0), 5);
            x.run(60);
            due.is("state(0, 1)", x.state(0, 1), 6);
            due.is("state(1, 0)", x.state(1, 0), size == 23 ? 6 : 5);
            due.is("channel(1, 0)", x.channel(1, 0), size == 23 ? 0 : -1);
            due.phases(x, 3);
        }
    }

    private static void connectDropped(Due due) {
        for (int size = 23; size <= 24; size++) {
            due.in("CONNECT with " + size + " in the row of the caller's bus: CONNECT");
            PassiveBuses x = rigRingingOnBus0(due, size);
            due.yes("answer", x.answer(0, 1));
            tickThatHolds(x);
            due.is("waiting(1, false)", x.waiting(1, false), 24);
            due.phases(x, 3);
            due.is("state(0, 1)", x.state(0, 1), 6);
            due.is("state(1, 0)", x.state(1, 0), 3);
            x.run(60);
            due.is("state(1, 0)", x.state(1, 0), size == 23 ? 6 : 3);
            due.phases(x, 3);
        }
    }

    private static void doneDropped(Due due) {
        for (int size = 23; size <= 24; size++) {
            due.in("RELEASE with " + size + " in the row: DONE");
            PassiveBuses x = rigTalking(due, size);
            due.yes("hang", x.hang(1, 0));
            tickThatHolds(x);
            due.is("waiting(1, false)", x.waiting(1, false), 24);
            due.phases(x, 4);
            due.holders(x, 1, 0, 17);
            due.is("state(1, 0)", x.state(1, 0), 7);
            x.run(2);
            due.is("state(0, 1)", x.state(0, 1), 0);
            due.is("cause(0, 1)", x.cause(0, 1), 6);
            due.phases(x, 0);
            x.run(58);
            due.is("state(1, 0)", x.state(1, 0), size == 23 ? 0 : 7);
        }
    }

    private static void releaseOfTheCalledDropped(Due due) {
        for (int size = 23; size <= 24; size++) {
            due.in("a call ends with " + size + " in the row: RELEASE to the called");
            PassiveBuses x = rigTalking(due, size);
            due.yes("hang", x.hang(0, 1));
            tickThatHolds(x);
            due.is("waiting(1, false)", x.waiting(1, false), 24);
            due.phases(x, 4);
            due.holders(x, 0, 0, 17);
            due.holders(x, 1, 1, 17);
            due.is("state(1, 0)", x.state(1, 0), 6);
            x.run(60);
            due.is("state(1, 0)", x.state(1, 0), size == 23 ? 0 : 6);
            due.phases(x, size == 23 ? 0 : 4);
            due.holders(x, 1, size == 23 ? 0 : 1, 0);
        }
        due.in("a leg that is LEAVING without its RELEASE is gone when it hangs up");
        PassiveBuses x = rigTalking(due, 24);
        x.hang(0, 1);
        x.run(60);
        due.phases(x, 4);
        x.hang(1, 0);
        due.ticks(x, 2);
        due.phases(x, 0);
        due.holders(x, 1, 0, 0);
        due.is("state(1, 0)", x.state(1, 0), 0);
    }

    private static void releaseOfTheCallerDropped(Due due) {
        for (int size = 23; size <= 24; size++) {
            due.in("a call ends with " + size + " in the row: RELEASE to the caller");
            PassiveBuses x = rigRingingOnBus0(due, size);
            due.yes("hang", x.hang(0, 1));
            tickThatHolds(x);
            due.is("waiting(1, false)", x.waiting(1, false), 24);
            due.phases(x, 4);
            due.holders(x, 0, 0, 17);
            due.holders(x, 1, 1, 17);
            due.is("state(1, 0)", x.state(1, 0), 3);
            x.run(60);
            due.is("state(1, 0)", x.state(1, 0), size == 23 ? 0 : 3);
            due.phases(x, size == 23 ? 0 : 4);
        }
    }
}
