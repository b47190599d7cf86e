/** Calls from SETUP to their end: promises 4, 5, 6, 12, 14, 15, 16, 20 and 21. */
public final class CallsTest {
    public static void main(String[] args) {
        Due due = new Due();
        wholeCall(due);
        callerHangsUpTalking(due);
        bothHangUp(due);
        callOnOneBus(due);
        noChannel(due);
        noCalledChannel(due);
        fourCalls(due);
        nobodyThere(due);
        secondOfferRings(due);
        nobodyAnswers(due);
        ringingOnesHangUp(due);
        callerHangsUpRinging(due);
        twoAnswer(due);
        tooLate(due);
        connectWithoutAlert(due);
        leastOfSeveralCalls(due);
        doneOfSeveralCalls(due);
        releaseWithoutALeg(due);
        ringingOnTheCallersAddress(due);
        secondOfTwoCalls(due);
        callAfterCall(due);
        due.end();
    }

    /** Bus 0, socket 0 has called bus 1, where all of some sockets ring; nothing waits, all are eager. */
    private static PassiveBuses rigRinging(int onBus1) {
        PassiveBuses x = Due.rig(1, onBus1);
        x.dial(0, 0, 1);
        x.run(3 + onBus1);
        return x;
    }

    /** Socket 0 of both buses are ACTIVE in call 1. */
    private static PassiveBuses rigTalking() {
        PassiveBuses x = rigRinging(1);
        x.answer(1, 0);
        x.run(3);
        return x;
    }

    private static void wholeCall(Due due) {
        due.in("whole call");
        PassiveBuses x = Due.rig(1, 2);
        x.dial(0, 0, 1);
        due.ticks(x, 3);
        due.states(x, 0, 2);
        due.is("channel(0, 0)", x.channel(0, 0), 0);
        due.is("reference(0, 0)", x.reference(0, 0), 1);
        due.states(x, 1, 4, 4);
        due.is("reference(1, 1)", x.reference(1, 1), 2);
        due.is("channel(1, 1)", x.channel(1, 1), -1);
        due.holders(x, 0, 1, 0);
        due.holders(x, 1, 1, 0);
        due.phases(x, 1, 0);
        due.ticks(x, 1);
        due.phases(x, 2, 0);
        due.states(x, 0, 2);
        due.ticks(x, 2);
        due.states(x, 0, 3);
        due.ticks(x, 0);
        x.answer(1, 1);
        due.ticks(x, 2);
        due.states(x, 0, 3);
        due.states(x, 1, 4, 6);
        due.is("channel(1, 1)", x.channel(1, 1), 0);
        due.is("waiting(0, false)", x.waiting(0, false), 1);
        due.is("waiting(1, false)", x.waiting(1, false), 1);
        due.phases(x, 3, 0);
        due.ticks(x, 2);
        due.states(x, 0, 6);
        due.states(x, 1, 0, 6);
        due.is("cause(1, 0)", x.cause(1, 0), 5);
        due.ticks(x, 1, 0);
        due.phases(x, 3, 0);
        due.holders(x, 0, 1, 0);
        due.holders(x, 1, 1, 0);
        x.hang(1, 1);
        due.states(x, 1, 0, 7);
        due.is("channel(1, 1)", x.channel(1, 1), 0);
        due.ticks(x, 2);
        due.states(x, 1, 0, 0);
        due.is("channel(1, 1)", x.channel(1, 1), -1);
        due.is("cause(1, 1)", x.cause(1, 1), 0);
        due.phases(x, 4, 0);
        due.holders(x, 0, 1, 0);
        due.holders(x, 1, 0, 0);
        due.ticks(x, 1);
        due.states(x, 0, 0);
        due.is("cause(0, 0)", x.cause(0, 0), 6);
        due.is("channel(0, 0)", x.channel(0, 0), -1);
        due.holders(x, 0, 1, 0);
        due.ticks(x, 1);
        due.holders(x, 0, 0, 0);
        due.phases(x, 0, 0);
        x.dial(1, 0, 0);
        due.ticks(x, 2);
        due.phases(x, 0, 1);
        due.ticks(x, 1);
        due.is("reference(0, 0)", x.reference(0, 0), 4);
    }

    private static void callerHangsUpTalking(Due due) {
        due.in("caller hangs up talking");
        PassiveBuses x = rigTalking();
        due.states(x, 0, 6);
        due.states(x, 1, 6);
        x.hang(0, 0);
        due.is("channel(0, 0)", x.channel(0, 0), 0);
        due.ticks(x, 3);
        due.states(x, 0, 0);
        due.states(x, 1, 0);
        due.is("cause(0, 0)", x.cause(0, 0), 0);
        due.is("cause(1, 0)", x.cause(1, 0), 6);
        due.is("channel(1, 0)", x.channel(1, 0), -1);
        due.phases(x, 4);
        due.holders(x, 0, 0, 0);
        due.holders(x, 1, 1, 0);
        due.ticks(x, 1);
        due.holders(x, 1, 0, 0);
        due.phases(x, 0);
    }

    private static void bothHangUp(Due due) {
        due.in("both hang up");
        PassiveBuses x = rigTalking();
        x.hang(0, 0);
        x.hang(1, 0);
        due.ticks(x, 4);
        due.states(x, 0, 0);
        due.states(x, 1, 0);
        due.is("cause(1, 0)", x.cause(1, 0), 6);
        due.phases(x, 0);
        due.ticks(x, 2, 0);
        due.is("cause(0, 0)", x.cause(0, 0), 0);
    }

    private static void callOnOneBus(Due due) {
        due.in("call on one bus");
        PassiveBuses x = Due.rig(2, 1);
        x.dial(0, 1, 0);
        due.ticks(x, 2);
        due.states(x, 0, 0, 2);
        due.holders(x, 0, 1, 1);
        due.holders(x, 1, 0, 0);
        due.ticks(x, 1, 2);
        due.states(x, 0, 4, 3);
        due.states(x, 1, 0);
        x.answer(0, 0);
        due.ticks(x, 2, 1);
        due.states(x, 0, 6, 6);
        due.is("channel(0, 0)", x.channel(0, 0), 1);
        due.is("channel(0, 1)", x.channel(0, 1), 0);
        due.phases(x, 3);
    }

    private static void noChannel(Due due) {
        due.in("no channel: cause 3, but a wrong number is cause 1");
        PassiveBuses x = Due.rig(4, 0);
        x.dial(0, 0, 1);
        x.dial(0, 1, 1);
        x.dial(0, 2, 1);
        x.dial(0, 3, 2);
        due.ticks(x, 3, 3, 2, 2);
        due.is("channel(0, 0)", x.channel(0, 0), 0);
        due.is("channel(0, 1)", x.channel(0, 1), 1);
        due.holders(x, 0, 1, 2);
        due.holders(x, 1, 1, 2);
        due.states(x, 0, 2, 2, 0, 0);
        due.is("cause(0, 2)", x.cause(0, 2), 3);
        due.is("cause(0, 3)", x.cause(0, 3), 1);
        due.phases(x, 1, 1, 0, 0);
        x.hang(0, 0);
        due.is("run(4)", x.run(4), 4);
        due.holders(x, 0, 0, 2);
        x.dial(0, 3, 1);
        due.ticks(x, 3);
        due.is("channel(0, 3)", x.channel(0, 3), 0);
        due.holders(x, 0, 3, 2);
        due.holders(x, 1, 3, 2);
        due.phases(x, 0, 1, 1, 0);
    }

    private static void noCalledChannel(Due due) {
        due.in("no channel on the other bus: cause 4");
        PassiveBuses x = Due.rig(1, 1);
        x.dial(1, 0, 1);
        due.ticks(x, 2);
        due.holders(x, 1, 1, 1);
        x.dial(0, 0, 1);
        due.ticks(x, 3);
        due.states(x, 0, 0);
        due.is("cause(0, 0)", x.cause(0, 0), 4);
        due.holders(x, 0, 0, 0);
        due.phases(x, 1, 0);

        due.in("no other channel on the same bus: cause 4");
        x = Due.rig(2, 1);
        x.dial(1, 0, 0);
        due.ticks(x, 2);
        due.holders(x, 0, 1, 0);
        x.dial(0, 0, 0);
        due.ticks(x, 2);
        due.states(x, 0, 1, 4);
        due.ticks(x, 3);
        due.states(x, 0, 0, 4);
        due.is("cause(0, 0)", x.cause(0, 0), 4);
        due.phases(x, 2, 0);
    }

    private static void fourCalls(Due due) {
        due.in("four calls: cause 2");
        PassiveBuses x = Due.rig(4, 1);
        x.dial(0, 0, 1);
        due.ticks(x, 3, 1, 1);
        x.plug(1, 1, 1);
        due.ticks(x, 2, 0);
        x.dial(0, 1, 1);
        due.ticks(x, 3, 1, 1);
        due.phases(x, 2, 2);
        due.holders(x, 1, 1, 2);
        x.unplug(1, 0);
        x.unplug(1, 1);
        // The CHECKs hold back the RELEASEs, and these fail, so that both ended calls are there for a while.
        x.audit(1, 64);
        x.audit(1, 65);
        x.hang(0, 0);
        x.hang(0, 1);
        due.ticks(x, 3, 3);
        due.phases(x, 4, 4);
        due.holders(x, 0, 0, 0);
        due.holders(x, 1, 0, 0);
        x.dial(0, 2, 1);
        x.dial(0, 3, 1);
        due.ticks(x, 3, 3);
        due.phases(x, 4, 4, 1, 1, 0);
        due.holders(x, 0, 3, 4);
        x.dial(0, 0, 1);
        due.ticks(x, 3);
        due.states(x, 0, 0, 0, 2, 2);
        due.is("cause(0, 0)", x.cause(0, 0), 2);
        due.phases(x, 0, 4, 1, 1, 0);
        x.dial(0, 0, 1);
        x.run(5);
        due.is("cause(0, 0)", x.cause(0, 0), 3);
    }

    private static void nobodyThere(Due due) {
        due.in("nobody there: cause 8");
        PassiveBuses x = Due.rig(1, 0);
        x.dial(0, 0, 1);
        due.ticks(x, 3, 0, 0, 0, 0, 0, 0, 0, 0);
        due.is("waiting(1, false)", x.waiting(1, false), 0);
        due.ticks(x, 0);
        due.is("waiting(1, false)", x.waiting(1, false), 1);
        due.ticks(x, 1, 0, 0, 0, 0, 0, 0, 0, 0);
        due.phases(x, 1);
        due.holders(x, 1, 1, 0);
        due.ticks(x, 0);
        due.phases(x, 4);
        due.is("waiting(0, false)", x.waiting(0, false), 1);
        due.holders(x, 0, 1, 0);
        due.holders(x, 1, 0, 0);
        due.states(x, 0, 2);
        due.ticks(x, 1);
        due.states(x, 0, 0);
        due.is("cause(0, 0)", x.cause(0, 0), 8);
        due.ticks(x, 1);
        due.phases(x, 0);
        due.is("run(60)", x.run(60), 0);
    }

    private static void secondOfferRings(Due due) {
        due.in("the second offer rings");
        PassiveBuses x = Due.rig(1, 0);
        x.dial(0, 0, 1);
        due.ticks(x, 3);
        x.plug(1, 2, 3);
        due.ticks(x, 2, 0, 0, 0, 0, 0, 0, 0, 0);
        due.states(x, 1, -1, -1, 0);
        due.ticks(x, 1);
        due.states(x, 1, -1, -1, 4);
        due.ticks(x, 1);
        due.phases(x, 2);
    }

    private static void nobodyAnswers(Due due) {
        due.in("nobody answers: cause 9");
        PassiveBuses x = Due.rig(1, 1);
        x.dial(0, 0, 1);
        due.ticks(x, 3, 1, 1);
        due.is("run(37)", x.run(37), 0);
        due.phases(x, 2);
        due.ticks(x, 0);
        due.phases(x, 4);
        due.is("waiting(0, false)", x.waiting(0, false), 1);
        due.is("waiting(1, false)", x.waiting(1, false), 1);
        due.holders(x, 0, 1, 0);
        due.holders(x, 1, 0, 0);
        due.ticks(x, 2);
        due.states(x, 0, 0);
        due.states(x, 1, 0);
        due.is("cause(0, 0)", x.cause(0, 0), 9);
        due.is("cause(1, 0)", x.cause(1, 0), 9);
        due.phases(x, 4);
        due.ticks(x, 2);
        due.phases(x, 0);
    }

    private static void ringingOnesHangUp(Due due) {
        due.in("ringing ones hang up: cause 7 after the last");
        PassiveBuses x = rigRinging(2);
        due.states(x, 0, 3);
        due.states(x, 1, 4, 4);
        x.hang(1, 0);
        due.ticks(x, 2);
        due.states(x, 1, 0, 4);
        due.phases(x, 2);
        x.hang(1, 1);
        due.ticks(x, 2);
        due.phases(x, 4);
        due.holders(x, 1, 0, 0);
        due.states(x, 0, 3);
        due.ticks(x, 1);
        due.is("cause(0, 0)", x.cause(0, 0), 7);
        due.ticks(x, 1);
        due.phases(x, 0);
    }

    private static void callerHangsUpRinging(Due due) {
        due.in("caller hangs up while it rings: cause 6 by address");
        PassiveBuses x = rigRinging(2);
        x.hang(0, 0);
        due.ticks(x, 3);
        due.states(x, 0, 0);
        due.states(x, 1, 0, 4);
        due.phases(x, 4);
        due.holders(x, 0, 0, 0);
        due.holders(x, 1, 0, 0);
        due.ticks(x, 2);
        due.states(x, 1, 0, 0);
        due.is("cause(1, 0)", x.cause(1, 0), 6);
        due.is("cause(1, 1)", x.cause(1, 1), 6);
        due.phases(x, 4);
        due.ticks(x, 1);
        due.phases(x, 0);
    }

    private static void twoAnswer(Due due) {
        due.in("two answer, one wins");
        PassiveBuses x = rigRinging(3);
        x.answer(1, 2);
        x.answer(1, 1);
        due.ticks(x, 2);
        due.states(x, 1, 4, 6, 5);
        due.ticks(x, 3);
        due.states(x, 0, 6);
        due.states(x, 1, 0, 6, 5);
        due.is("waiting(1, false)", x.waiting(1, false), 1);
        due.ticks(x, 2);
        due.states(x, 1, 0, 6, 0);
        due.is("cause(1, 2)", x.cause(1, 2), 5);
        due.is("waiting(1, false)", x.waiting(1, false), 0);
        due.ticks(x, 1, 0);
        due.phases(x, 3);
        due.holders(x, 1, 1, 0);
    }

    private static void tooLate(Due due) {
        due.in("ALERT and CONNECT too late: cause 5 for each");
        PassiveBuses x = Due.rig(1, 1);
        x.dial(0, 0, 1);
        due.ticks(x, 3);
        x.answer(1, 0);
        x.hang(0, 0);
        due.ticks(x, 4);
        due.phases(x, 0);
        due.holders(x, 0, 0, 0);
        due.holders(x, 1, 0, 0);
        due.states(x, 1, 0);
        due.is("cause(1, 0)", x.cause(1, 0), 5);
        due.is("waiting(1, true)", x.waiting(1, true), 2);
        due.ticks(x, 2);
        due.is("waiting(1, true)", x.waiting(1, true), 2);
        due.ticks(x, 1, 1, 0);
    }

    /** Sockets 0 and 1 of a bus have 64; the next bit of socket 0 is the one due at the exchange, that of 1 is not. */
    private static PassiveBuses rigOfTwins(int bus) {
        PassiveBuses x = new PassiveBuses();
        x.plug(bus, 0, 9);
        x.plug(bus, 1, 9);
        x.run(2);
        x.dial(bus, 0, 9);
        x.run(4);
        return x;
    }

    private static void connectWithoutAlert(Due due) {
        due.in("CONNECT of an address that did not alert");
        PassiveBuses x = rigOfTwins(1);
        x.unplug(1, 0);
        x.plug(0, 0, 0);
        due.ticks(x, 2);
        x.dial(0, 0, 1);
        due.ticks(x, 3);
        due.states(x, 1, -1, 4);
        due.ticks(x, 1);
        due.phases(x, 1);
        due.states(x, 0, 2);
        x.answer(1, 1);
        due.ticks(x, 2);
        due.phases(x, 3);
        due.states(x, 1, -1, 6);
        due.ticks(x, 1);
        due.states(x, 0, 6);
        due.holders(x, 0, 1, 0);
        due.holders(x, 1, 1, 0);
    }

    private static void leastOfSeveralCalls(Due due) {
        due.in("RELEASE ends the least of several calls");
        PassiveBuses x = rigOfTwins(0);
        x.dial(0, 1, 9);
        due.ticks(x, 1);
        x.hang(0, 1);
        due.ticks(x, 2, 0);
        due.states(x, 0, 0, 0);
        x.dial(0, 1, 1);
        due.ticks(x, 3);
        x.dial(0, 0, 1);
        due.ticks(x, 3);
        due.states(x, 0, 2, 2);
        due.is("reference(0, 0)", x.reference(0, 0), 3);
        due.is("reference(0, 1)", x.reference(0, 1), 3);
        due.is("channel(0, 0)", x.channel(0, 0), 1);
        due.is("channel(0, 1)", x.channel(0, 1), 0);
        due.holders(x, 0, 1, 2);
        x.hang(0, 0);
        due.ticks(x, 2);
        due.states(x, 0, 0, 2);
        due.phases(x, 0, 1);
        due.holders(x, 0, 0, 2);
        due.holders(x, 1, 0, 2);
    }

    /**
     * Sockets 0 and 1 of bus 0 have 64 both; socket 1 is the caller of call 1, socket 0 of call 2, both with the
     * reference 3. Socket 0 of bus 1 rings for one of them.
     */
    private static PassiveBuses rigOfTwoCallsOfOneReference(boolean firstRings) {
        PassiveBuses x = rigOfTwins(0);
        x.dial(0, 1, 9);
        x.run(1);
        x.hang(0, 1);
        x.run(3);
        x.plug(1, 0, 0);
        x.run(2);
        x.dial(0, 1, 1);
        if (!firstRings) {
            x.spoil(1, false, 0);
        }
        x.run(1);
        x.dial(0, 0, 1);
        x.run(1);
        return x;
    }

    private static void doneOfSeveralCalls(Due due) {
        due.in("DONE is for the leg of the least of several calls, which is gone if it is LEAVING");
        PassiveBuses x = rigOfTwoCallsOfOneReference(true);
        due.is("reference(0, 0)", x.reference(0, 0), 3);
        due.is("reference(0, 1)", x.reference(0, 1), 3);
        due.is("reference(1, 0)", x.reference(1, 0), 2);
        due.phases(x, 2, 1);
        x.hang(1, 0);
        x.run(2);
        due.states(x, 0, 0, 0);
        due.phases(x, 4, 1);
        due.holders(x, 0, 1, 2);
        due.waiting(x, 0, 2, 0);
        x.run(2);
        due.waiting(x, 0, 0, 0);
        due.phases(x, 0, 1);
        due.holders(x, 0, 0, 2);

        due.in("DONE does nothing if the leg of the least of several calls is not LEAVING");
        x = rigOfTwoCallsOfOneReference(false);
        due.is("reference(1, 0)", x.reference(1, 0), 4);
        due.phases(x, 1, 1);
        x.hang(1, 0);
        x.run(3);
        due.states(x, 0, 0, 0);
        due.phases(x, 1, 4);
        due.holders(x, 0, 1, 2);
        due.waiting(x, 0, 2, 0);
        x.run(2);
        due.waiting(x, 0, 0, 0);
        due.phases(x, 1, 4);
        due.holders(x, 0, 1, 2);
    }

    private static void releaseWithoutALeg(Due due) {
        due.in("RELEASE of an address that has no leg is answered by DONE all the same");
        PassiveBuses x = Due.rig(1, 0);
        x.dial(0, 0, 9);
        x.hang(0, 0);
        due.ticks(x, 2);
        due.states(x, 0, 0);
        due.waiting(x, 0, 2, 0);
        due.ticks(x, 2);
        due.waiting(x, 0, 1, 0);
        due.ticks(x, 1, 0);
        due.phases(x, 0);
    }

    private static void ringingOnTheCallersAddress(Due due) {
        due.in("ringing on the caller's address, which is dropped");
        PassiveBuses x = rigOfTwins(0);
        x.dial(0, 0, 0);
        due.ticks(x, 2, 1, 2);
        due.states(x, 0, 3, 4);
        due.phases(x, 2);
        x.audit(0, 64);
        x.spoil(0, false, 0);
        due.is("run(7)", x.run(7), 1);
        due.phases(x, 2);
        due.ticks(x, 0);
        due.phases(x, 0);
        due.is("given(0)", x.given(0), 0);
        due.is("waiting(0, false)", x.waiting(0, false), 0);
        due.states(x, 0, 3, 4);
    }

    private static void secondOfTwoCalls(Due due) {
        due.in("what one call's terminals send leaves the other call alone");
        PassiveBuses x = Due.rig(2, 1);
        x.dial(0, 0, 1);
        due.ticks(x, 3, 1, 1);
        x.plug(1, 1, 1);
        due.ticks(x, 2, 0);
        x.dial(0, 1, 1);
        due.ticks(x, 3, 1, 1);
        due.phases(x, 2, 2);
        due.is("reference(1, 0)", x.reference(1, 0), 2);
        due.is("reference(1, 1)", x.reference(1, 1), 4);
        x.answer(1, 1);
        due.ticks(x, 2, 1);
        due.phases(x, 2, 3);
        due.states(x, 0, 3, 6);
        due.states(x, 1, 4, 6);
        due.is("channel(1, 1)", x.channel(1, 1), 1);
        x.hang(0, 1);
        due.ticks(x, 3);
        due.phases(x, 2, 4);
        due.holders(x, 0, 1, 0);
        due.holders(x, 1, 1, 2);
        due.ticks(x, 1);
        due.phases(x, 2, 0);
        due.states(x, 0, 3, 0);
        due.states(x, 1, 4, 0);
        due.is("cause(1, 1)", x.cause(1, 1), 6);
        x.dial(0, 1, 1);
        due.ticks(x, 3, 1, 1);
        due.is("reference(1, 1)", x.reference(1, 1), 6);
        x.hang(1, 1);
        due.ticks(x, 2, 1);
        due.is("cause(0, 1)", x.cause(0, 1), 7);
        due.phases(x, 2, 0, 4);
        due.ticks(x, 1);
        due.phases(x, 2, 0, 0);
    }

    private static void callAfterCall(Due due) {
        due.in("a call after one that was offered twice is offered twice");
        PassiveBuses x = Due.rig(1, 0);
        for (int call = 1; call <= 2; call++) {
            x.dial(0, 0, 1);
            due.is("run(19)", x.run(19), 4);
            due.is("phase", x.phase(call), 1);
            due.ticks(x, 0, 1, 1);
            due.is("phase", x.phase(call), 0);
        }

        due.in("a call after one that was answered");
        x = rigTalking();
        x.hang(0, 0);
        due.ticks(x, 3, 1, 0);
        x.dial(0, 0, 1);
        due.ticks(x, 3, 1, 1);
        x.hang(0, 0);
        due.ticks(x, 3);
        due.phases(x, 0, 4);
        due.holders(x, 1, 0, 0);
    }
}
