/** Who may send, what is spoilt, resent, ignored and lost: promises 8, 10, 13, 18 and what they rest on. */
public final class LinkTest {
    private static final int MILD = 2048;
    private static final int DRAW = 128;

    public static void main(String[] args) {
        Due due = new Due();
        leastAddressThenTurns(due);
        addressBeforeBitAndKind(due);
        numberedBeforeLoose(due);
        requestBeforeReply(due);
        repliesByAddressThenDraw(due);
        sharedAddressOrder(due);
        sharedAddressKinds(due);
        spoilArguments(due);
        spoilIsUsedUpOnce(due);
        acknowledgementSpoiltUp(due);
        acknowledgementSpoiltDown(due);
        terminalLosesLink(due);
        failuresAcrossTurns(due);
        failuresOfEachFrame(due);
        failuresOfEachTerminal(due);
        addressNotGivenOut(due);
        exchangeLosesLink(due);
        exchangeLosesLinkByAcknowledgements(due);
        bitsBeginAnew(due);
        due.end();
    }

    /** Sockets 0 and 1 of bus 0 both have 64 and the draw 9, all bits 0, all eager. */
    private static PassiveBuses rigOfTwins() {
        PassiveBuses x = new PassiveBuses();
        x.plug(0, 0, 9);
        x.plug(0, 1, 9);
        x.run(2);
        return x;
    }

    private static void leastAddressThenTurns(Due due) {
        due.in("least address first, then turns");
        PassiveBuses x = Due.rig(2, 0);
        x.dial(0, 1, 5);
        x.dial(0, 0, 5);
        due.ticks(x, 2);
        due.states(x, 0, 0, 1);
        due.addresses(x, 0, 64 + MILD, 65 + DRAW);
        due.is("waiting(0, true)", x.waiting(0, true), 2);
        due.ticks(x, 2);
        due.states(x, 0, 0, 0);
        due.addresses(x, 0, 64 + MILD, 65 + DRAW + MILD);
        due.is("waiting(0, true)", x.waiting(0, true), 2);
        due.ticks(x, 1);
        due.addresses(x, 0, 64 + MILD, 65 + DRAW);
        due.is("waiting(0, true)", x.waiting(0, true), 1);
        due.ticks(x, 1);
        due.addresses(x, 0, 64 + MILD, 65 + DRAW + MILD);
        due.ticks(x, 0);
        due.addresses(x, 0, 64, 65 + DRAW);
    }

    private static void addressBeforeBitAndKind(Due due) {
        due.in("address before bit and kind");
        PassiveBuses x = Due.rig(2, 0);
        x.dial(0, 0, 1);
        x.run(2);
        x.hang(0, 0);
        x.dial(0, 1, 9);
        due.ticks(x, 2);
        due.states(x, 0, 0, 1);
        due.addresses(x, 0, 64 + MILD, 65 + DRAW);
    }

    private static void numberedBeforeLoose(Due due) {
        due.in("numbered before loose");
        PassiveBuses x = Due.rig(1, 0);
        x.plug(0, 1, 0);
        x.dial(0, 0, 5);
        due.ticks(x, 2);
        due.addresses(x, 0, 64 + MILD, 0);
        due.is("cause(0, 0)", x.cause(0, 0), 1);
        due.ticks(x, 2);
        due.addresses(x, 0, 64 + MILD, 65 + MILD);
    }

    private static void requestBeforeReply(Due due) {
        due.in("request before reply");
        PassiveBuses x = Due.rig(1, 0);
        x.audit(0, 64);
        due.ticks(x, 1);
        x.plug(0, 1, 15);
        due.ticks(x, 2);
        due.addresses(x, 0, 64, 65 + 15 * DRAW + MILD);
        due.ticks(x, 1);
        due.addresses(x, 0, 64 + MILD, 65 + 15 * DRAW + MILD);
    }

    private static void repliesByAddressThenDraw(Due due) {
        due.in("of two REPLYs that of the least address is first, whatever the draws");
        PassiveBuses x = new PassiveBuses();
        x.plug(0, 0, 9);
        x.run(2);
        x.plug(0, 1, 2);
        x.run(2);
        due.addresses(x, 0, 64 + 9 * DRAW, 65 + 2 * DRAW);
        x.dial(0, 0, 7);
        x.dial(0, 1, 7);
        x.audit(0, 64);
        x.audit(0, 65);
        // When both CHECKs are heard, each has its SETUP, and then a REPLY, to send; their turns come in this order.
        due.ticks(x, 2, 2, 2);
        due.addresses(x, 0, 64 + 9 * DRAW + MILD, 65 + 2 * DRAW);
        due.ticks(x, 2);
        due.addresses(x, 0, 64 + 9 * DRAW + MILD, 65 + 2 * DRAW + MILD);

        due.in("of two REPLYs with one address that of the least draw is first");
        x = new PassiveBuses();
        x.plug(0, 0, 9);
        x.run(2);
        x.audit(0, 64);
        x.spoil(0, false, 0);
        x.run(8);
        x.plug(0, 1, 2);
        x.run(2);
        due.addresses(x, 0, 64 + 9 * DRAW, 64 + 2 * DRAW);
        x.audit(0, 64);
        due.ticks(x, 1, 1);
        due.addresses(x, 0, 64 + 9 * DRAW, 64 + 2 * DRAW + MILD);
        due.ticks(x, 1);
        due.addresses(x, 0, 64 + 9 * DRAW + MILD, 64 + 2 * DRAW + MILD);
    }

    private static void sharedAddressOrder(Due due) {
        due.in("on one address the least number first, below 0 too");
        PassiveBuses x = rigOfTwins();
        x.dial(0, 0, 7);
        x.dial(0, 1, -3);
        due.ticks(x, 2);
        due.addresses(x, 0, 64 + 9 * DRAW, 64 + 9 * DRAW + MILD);
        due.states(x, 0, 0, 0);

        due.in("the least number of all is before the greatest");
        x = rigOfTwins();
        x.dial(0, 0, Integer.MAX_VALUE);
        x.dial(0, 1, Integer.MIN_VALUE);
        due.ticks(x, 2);
        due.addresses(x, 0, 64 + 9 * DRAW, 64 + 9 * DRAW + MILD);

        due.in("on one address the least bit first, and another bit does nothing");
        x = rigOfTwins();
        x.dial(0, 0, 9);
        due.ticks(x, 2);
        due.is("waiting(0, true)", x.waiting(0, true), 2);
        due.addresses(x, 0, 64 + 9 * DRAW + MILD, 64 + 9 * DRAW);
        due.ticks(x, 1, 1);
        due.addresses(x, 0, 64 + 9 * DRAW + MILD, 64 + 9 * DRAW);
        x.dial(0, 0, 9);
        x.dial(0, 1, 9);
        // Socket 1 has not had its turn since all were eager, so its SETUP goes first, with the bit that is not due.
        due.ticks(x, 1);
        due.states(x, 0, 1, 1);
        due.ticks(x, 2);
        due.states(x, 0, 0, 1);
        due.is("cause(0, 0)", x.cause(0, 0), 1);
        due.is("cause(0, 1)", x.cause(0, 1), 0);

        due.in("on one address the least reference first, before the number");
        x = Due.rig(1, 0);
        x.dial(0, 0, 9);
        due.ticks(x, 2, 1, 0);
        x.audit(0, 64);
        x.spoil(0, false, 0);
        due.is("run(8)", x.run(8), 1);
        x.plug(0, 1, 7);
        due.ticks(x, 2, 0);
        due.addresses(x, 0, 64, 64 + 7 * DRAW);
        x.dial(0, 0, 5);
        x.dial(0, 1, 9);
        due.is("reference(0, 0)", x.reference(0, 0), 3);
        due.is("reference(0, 1)", x.reference(0, 1), 1);
        due.ticks(x, 2);
        due.addresses(x, 0, 64, 64 + 7 * DRAW + MILD);
        due.states(x, 0, 1, 0);
    }

    private static void sharedAddressKinds(Due due) {
        due.in("on one address the least kind first");
        PassiveBuses x = rigOfTwins();
        x.plug(1, 0, 0);
        x.run(2);
        x.dial(1, 0, 0);
        due.ticks(x, 2, 1);
        due.states(x, 0, 4, 4);
        due.states(x, 1, 2);
        due.ticks(x, 2);
        due.states(x, 1, 3);
        due.is("waiting(0, true)", x.waiting(0, true), 0);
        due.ticks(x, 0);
        x.hang(0, 0);
        x.answer(0, 1);
        due.ticks(x, 3);
        due.addresses(x, 0, 64 + 9 * DRAW, 64 + 9 * DRAW + MILD);
        due.states(x, 0, 7, 6);
        due.phases(x, 3);
    }

    private static void spoilArguments(Due due) {
        due.in("spoil: wrong and changed minds");
        PassiveBuses x = Due.rig(1, 0);
        due.yes("spoil(0, true, 0)", x.spoil(0, true, 0));
        for (int what : new int[] {-1, 3, Integer.MIN_VALUE, Integer.MAX_VALUE}) {
            due.no("spoil(0, true, " + what + ")", x.spoil(0, true, what));
        }
        x.dial(0, 0, 9);
        due.ticks(x, 1);
        due.states(x, 0, 1);
        due.yes("spoil(0, true, 0)", x.spoil(0, true, 0));
        due.yes("spoil(0, true, 1)", x.spoil(0, true, 1));
        due.ticks(x, 2);
        due.states(x, 0, 0);
        due.is("waiting(0, true)", x.waiting(0, true), 2);
        due.yes("spoil(0, true, 1)", x.spoil(0, true, 1));
        due.yes("spoil(0, true, 2)", x.spoil(0, true, 2));
        due.ticks(x, 1);
        due.is("waiting(0, true)", x.waiting(0, true), 1);
    }

    private static void spoilIsUsedUpOnce(Due due) {
        due.in("spoil waits for its own bus and way, and is used up");
        PassiveBuses x = Due.rig(1, 1);
        x.spoil(1, true, 0);
        x.spoil(1, false, 0);
        x.spoil(0, false, 0);
        due.is("run(10)", x.run(10), 0);
        x.dial(0, 0, 9);
        due.ticks(x, 2);
        due.states(x, 0, 1);
        due.is("waiting(0, true)", x.waiting(0, true), 0);
        due.is("waiting(0, false)", x.waiting(0, false), 1);
        due.ticks(x, 1);
        due.states(x, 0, 0);
        due.ticks(x, 1);
        x.dial(0, 0, 1);
        due.ticks(x, 3, 0);
        due.states(x, 1, 0);
        x.dial(1, 0, 9);
        due.ticks(x, 1);
        due.states(x, 1, 1);
        due.ticks(x, 2);
        due.states(x, 1, 0);
    }

    private static void acknowledgementSpoiltUp(Due due) {
        due.in("acknowledgement spoilt up");
        PassiveBuses x = Due.rig(1, 1);
        x.dial(0, 0, 1);
        x.spoil(0, true, 1);
        due.ticks(x, 3);
        due.is("waiting(0, true)", x.waiting(0, true), 1);
        due.states(x, 0, 2);
        due.phases(x, 1, 0);
        due.ticks(x, 2);
        due.is("waiting(0, true)", x.waiting(0, true), 0);
        due.phases(x, 2, 0);
        due.ticks(x, 1);
        x.hang(0, 0);
        due.ticks(x, 3);
        due.phases(x, 4, 0);
        due.states(x, 0, 0);
    }

    private static void acknowledgementSpoiltDown(Due due) {
        due.in("acknowledgement spoilt down");
        PassiveBuses x = Due.rig(1, 0);
        x.dial(0, 0, 9);
        x.spoil(0, false, 1);
        due.ticks(x, 2);
        due.states(x, 0, 0);
        due.is("cause(0, 0)", x.cause(0, 0), 1);
        due.is("waiting(0, true)", x.waiting(0, true), 1);
        due.is("waiting(0, false)", x.waiting(0, false), 1);
        due.ticks(x, 2);
        due.is("waiting(0, true)", x.waiting(0, true), 0);
        due.is("waiting(0, false)", x.waiting(0, false), 0);
    }

    private static void terminalLosesLink(Due due) {
        due.in("a terminal loses its link");
        PassiveBuses x = new PassiveBuses();
        x.plug(0, 0, 15);
        x.run(2);
        x.dial(0, 0, 1);
        x.hang(0, 0);
        for (int i = 0; i < 2; i++) {
            x.spoil(0, true, 0);
            due.ticks(x, 1);
            due.addresses(x, 0, 64 + 15 * DRAW + MILD);
            due.is("waiting(0, true)", x.waiting(0, true), 2);
        }
        x.spoil(0, true, 0);
        due.ticks(x, 1);
        due.addresses(x, 0, MILD);
        due.states(x, 0, 0);
        due.is("reference(0, 0)", x.reference(0, 0), -1);
        due.is("waiting(0, true)", x.waiting(0, true), 1);
        due.is("given(0)", x.given(0), 1);
        due.ticks(x, 2);
        due.addresses(x, 0, 65 + MILD);
        due.is("given(0)", x.given(0), 3);
        x.dial(0, 0, 9);
        due.is("reference(0, 0)", x.reference(0, 0), 3);
        due.ticks(x, 2);
        due.is("cause(0, 0)", x.cause(0, 0), 1);

        due.in("a terminal that lost its link asks again after 8 ticks");
        x = Due.rig(1, 0);
        x.dial(0, 0, 1);
        for (int i = 0; i < 3; i++) {
            x.spoil(0, true, 0);
            due.ticks(x, 1);
        }
        x.spoil(0, true, 0);
        due.ticks(x, 1, 0, 0, 0, 0, 0);
        due.addresses(x, 0, DRAW);
        due.ticks(x, 0);
        due.addresses(x, 0, 2 * DRAW);

        due.in("a terminal loses its link by acknowledgements alone");
        x = Due.rig(1, 0);
        x.dial(0, 0, 1);
        for (int i = 0; i < 3; i++) {
            due.is("address(0, 0)", x.address(0, 0) & 127, 64);
            x.spoil(0, true, 1);
            x.run(1);
        }
        due.addresses(x, 0, DRAW + MILD);
        due.is("channel(0, 0)", x.channel(0, 0), -1);
        due.phases(x, 1);
    }

    private static void failuresAcrossTurns(Due due) {
        due.in("failures add up whatever others send between");
        PassiveBuses x = Due.rig(2, 0);
        x.dial(0, 0, 5);
        x.spoil(0, true, 0);
        due.ticks(x, 1);
        x.dial(0, 1, 5);
        due.ticks(x, 2);
        x.spoil(0, true, 0);
        due.ticks(x, 1);
        due.addresses(x, 0, 64 + MILD, 65 + DRAW);
        due.ticks(x, 1);
        due.is("waiting(0, true)", x.waiting(0, true), 1);
        x.spoil(0, true, 0);
        due.ticks(x, 1);
        due.addresses(x, 0, DRAW + MILD, 65 + DRAW);
    }

    private static void failuresOfEachFrame(Due due) {
        due.in("each frame has failures of its own");
        PassiveBuses x = Due.rig(1, 0);
        x.dial(0, 0, 9);
        for (int frame = 0; frame < 2; frame++) {
            for (int i = 0; i < 2; i++) {
                x.spoil(0, true, 0);
                due.ticks(x, 1);
            }
            due.ticks(x, frame == 0 ? 2 : 1);
        }
        due.addresses(x, 0, 64 + MILD);
        due.is("waiting(0, true)", x.waiting(0, true), 0);

        due.in("each frame of the exchange has failures of its own");
        x = Due.rig(1, 0);
        x.dial(0, 0, 1);
        x.hang(0, 0);
        for (int frame = 0; frame < 2; frame++) {
            for (int i = 0; i < 2; i++) {
                x.spoil(0, false, 0);
                x.run(1);
            }
            x.run(1);
        }
        due.states(x, 0, 0);
        due.is("given(0)", x.given(0), 1);
        due.is("waiting(0, false)", x.waiting(0, false), 0);
    }

    private static void failuresOfEachTerminal(Due due) {
        due.in("of two that send together each has its own failures");
        PassiveBuses x = rigOfTwins();
        x.dial(0, 0, 5);
        for (int i = 0; i < 2; i++) {
            x.spoil(0, true, 0);
            due.ticks(x, 1);
        }
        x.dial(0, 1, 5);
        x.spoil(0, true, 0);
        due.ticks(x, 1);
        due.addresses(x, 0, 64 + 9 * DRAW + MILD, 64 + 9 * DRAW + MILD);
        x.spoil(0, true, 0);
        due.ticks(x, 1);
        due.addresses(x, 0, 10 * DRAW + MILD, 64 + 9 * DRAW + MILD);
        due.states(x, 0, 0, 1);
        due.is("waiting(0, true)", x.waiting(0, true), 2);
    }

    private static void addressNotGivenOut(Due due) {
        due.in("a frame from an address not given out is not received");
        PassiveBuses x = Due.rig(1, 0);
        x.audit(0, 64);
        x.spoil(0, false, 0);
        due.is("run(8)", x.run(8), 1);
        due.is("given(0)", x.given(0), 0);
        due.addresses(x, 0, 64);
        x.dial(0, 0, 1);
        due.ticks(x, 1, 1);
        due.addresses(x, 0, 64 + MILD);
        due.states(x, 0, 1);
        due.ticks(x, 1);
        due.addresses(x, 0, DRAW + MILD);
        due.phases(x, 0);
        due.ticks(x, 2);
        due.addresses(x, 0, 64 + DRAW + MILD);
    }

    private static void exchangeLosesLink(Due due) {
        due.in("the exchange loses its link to a terminal that rang");
        PassiveBuses x = Due.rig(1, 1);
        x.dial(0, 0, 1);
        due.ticks(x, 3, 1, 1);
        due.states(x, 0, 3);
        x.unplug(1, 0);
        x.hang(0, 0);
        due.ticks(x, 3);
        due.states(x, 0, 0);
        due.phases(x, 4);
        due.holders(x, 0, 0, 0);
        due.holders(x, 1, 0, 0);
        due.ticks(x, 1);
        due.is("given(1)", x.given(1), 1);
        due.ticks(x, 1);
        due.is("given(1)", x.given(1), 0);
        due.is("waiting(1, false)", x.waiting(1, false), 0);
        due.phases(x, 0);
        due.ticks(x, 0);

        due.in("the exchange loses its link to a caller");
        x = Due.rig(2, 2);
        x.dial(0, 0, 1);
        x.unplug(1, 1);
        x.run(3);
        due.phases(x, 2);
        x.answer(1, 0);
        x.unplug(0, 0);
        due.ticks(x, 2);
        due.is("waiting(0, false)", x.waiting(0, false), 1);
        x.dial(0, 1, 9);
        // The refusal waits behind the CONNECT that goes to 64 in vain, and stays when 64 is dropped.
        due.ticks(x, 2, 1);
        due.is("waiting(0, false)", x.waiting(0, false), 2);
        due.is("given(0)", x.given(0), 3);
        due.phases(x, 3);
        due.states(x, 1, 6);
        due.ticks(x, 2);
        due.is("given(0)", x.given(0), 2);
        due.is("waiting(0, false)", x.waiting(0, false), 1);
        due.phases(x, 4);
        due.states(x, 1, 0);
        due.is("cause(1, 0)", x.cause(1, 0), 6);
        due.ticks(x, 2);
        due.phases(x, 0);
        due.is("cause(0, 1)", x.cause(0, 1), 1);
    }

    private static void exchangeLosesLinkByAcknowledgements(Due due) {
        due.in("the exchange loses its link by acknowledgements alone");
        PassiveBuses x = Due.rig(1, 0);
        x.dial(0, 0, 1);
        for (int i = 0; i < 3; i++) {
            due.is("given(0)", x.given(0), 1);
            x.spoil(0, false, 1);
            x.run(1);
        }
        due.is("given(0)", x.given(0), 0);
        due.states(x, 0, 2);
        due.phases(x, 0);
        due.addresses(x, 0, 64);
    }

    private static void bitsBeginAnew(Due due) {
        due.in("a terminal that gets another address begins with bit 0");
        PassiveBuses x = Due.rig(1, 0);
        x.dial(0, 0, 1);
        due.ticks(x, 3, 0);
        x.hang(0, 0);
        for (int i = 0; i < 3; i++) {
            x.spoil(0, true, 0);
            due.ticks(x, 1);
        }
        due.addresses(x, 0, DRAW + MILD);
        due.ticks(x, 2);
        due.addresses(x, 0, 65 + DRAW + MILD);
        x.dial(0, 0, 9);
        due.ticks(x, 2);
        due.is("cause(0, 0)", x.cause(0, 0), 1);

        due.in("an address that is given out again begins with bit 0 at the exchange");
        x = Due.rig(1, 0);
        x.dial(0, 0, 1);
        due.ticks(x, 3, 0);
        x.unplug(0, 0);
        x.audit(0, 64);
        due.is("run(8)", x.run(8), 1);
        due.is("given(0)", x.given(0), 0);
        x.plug(0, 0, 3);
        due.ticks(x, 2);
        due.addresses(x, 0, 64 + 3 * DRAW + MILD);
        x.dial(0, 0, 9);
        due.ticks(x, 2);
        due.is("cause(0, 0)", x.cause(0, 0), 1);
    }
}
