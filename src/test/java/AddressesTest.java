/** How addresses are given, shared, lost and audited: promises 2, 8, 9, 10, 13, 18 and 19. */
public final class AddressesTest {
    private static final int MILD = 2048;
    private static final int DRAW = 128;

    public static void main(String[] args) {
        Due due = new Due();
        leastDrawFirst(due);
        sameDrawSharesAnAddress(due);
        requestThatWaitsStays(due);
        noFreeAddress(due);
        clockReplacesWaitingRequest(due);
        spoiltRequestOrGive(due);
        auditOfOne(due);
        auditOfNobody(due);
        auditOfTwo(due);
        auditRefused(due);
        dropEndsAudit(due);
        takeInACall(due);
        due.end();
    }

    private static void leastDrawFirst(Due due) {
        due.in("least draw first");
        PassiveBuses x = new PassiveBuses();
        x.plug(0, 0, 9);
        x.plug(0, 1, 4);
        due.ticks(x, 2);
        due.addresses(x, 0, 9 * DRAW, 64 + 4 * DRAW + MILD);
        due.is("given(0)", x.given(0), 1);
        due.ticks(x, 2);
        due.addresses(x, 0, 65 + 9 * DRAW + MILD, 64 + 4 * DRAW + MILD);
        due.is("given(0)", x.given(0), 3);
        due.is("given(1)", x.given(1), 0);
        due.ticks(x, 0);
        due.addresses(x, 0, 65 + 9 * DRAW, 64 + 4 * DRAW);
    }

    private static void sameDrawSharesAnAddress(Due due) {
        due.in("same draw shares an address");
        PassiveBuses x = new PassiveBuses();
        x.plug(0, 0, 9);
        x.plug(0, 2, 9);
        x.plug(1, 0, 9);
        due.is("waiting(0, true)", x.waiting(0, true), 2);
        due.ticks(x, 4);
        due.is("waiting(0, true)", x.waiting(0, true), 0);
        due.addresses(x, 0, 64 + 9 * DRAW + MILD, -1, 64 + 9 * DRAW + MILD, -1);
        due.addresses(x, 1, 64 + 9 * DRAW + MILD);
        due.is("given(0)", x.given(0), 1);
    }

    private static void requestThatWaitsStays(Due due) {
        due.in("a request that waits stays when an address is taken");
        PassiveBuses x = Due.rig(2, 0);
        due.yes("audit", x.audit(0, 64));
        x.plug(0, 2, 9);
        due.ticks(x, 2);
        due.is("given(0)", x.given(0), 7);
        due.addresses(x, 0, 64, 65 + DRAW, 9 * DRAW + MILD);
        x.plug(0, 3, 9);
        x.dial(0, 1, 5);
        due.ticks(x, 2);
        due.addresses(x, 0, 64, 65 + DRAW + MILD, 66 + 9 * DRAW + MILD, 66 + 9 * DRAW);
        due.is("waiting(0, true)", x.waiting(0, true), 2);
        due.ticks(x, 2);
        due.is("given(0)", x.given(0), 15);
        due.addresses(x, 0, 64, 65 + DRAW + MILD, 66 + 9 * DRAW + MILD, 66 + 9 * DRAW + MILD);
        due.ticks(x, 2);
        due.addresses(x, 0, 64 + MILD, 65 + DRAW + MILD, 66 + 9 * DRAW + MILD, 66 + 9 * DRAW + MILD);
    }

    private static void noFreeAddress(Due due) {
        due.in("no free address");
        PassiveBuses x = Due.rig(4, 0);
        due.is("given(0)", x.given(0), 15);
        x.unplug(0, 1);
        x.plug(0, 1, 15);
        due.ticks(x, 1, 0, 0, 0, 0, 0, 0);
        due.is("address(0, 1)", x.address(0, 1), 15 * DRAW);
        due.is("waiting(0, true)", x.waiting(0, true), 0);
        due.ticks(x, 0);
        due.is("address(0, 1)", x.address(0, 1), 0);
        due.is("waiting(0, true)", x.waiting(0, true), 1);
        due.ticks(x, 1, 0, 0, 0, 0, 0, 0, 0);
        due.is("address(0, 1)", x.address(0, 1), DRAW);
        due.is("given(0)", x.given(0), 15);
    }

    private static void clockReplacesWaitingRequest(Due due) {
        due.in("the clock puts a request in the place of the one that waits");
        PassiveBuses x = new PassiveBuses();
        x.plug(0, 0, 15);
        for (int i = 0; i < 8; i++) {
            due.is("address(0, 0)", x.address(0, 0), 15 * DRAW);
            x.unplug(0, 1);
            x.plug(0, 1, 0);
            due.ticks(x, i < 4 ? 2 : 1);
            due.is("waiting(0, true)", x.waiting(0, true), 1);
        }
        due.is("address(0, 0)", x.address(0, 0), 0);
    }

    private static void spoiltRequestOrGive(Due due) {
        due.in("spoilt request");
        PassiveBuses x = new PassiveBuses();
        x.plug(0, 0, 15);
        due.yes("spoil", x.spoil(0, true, 0));
        due.ticks(x, 1);
        due.is("waiting(0, true)", x.waiting(0, true), 0);
        due.is("given(0)", x.given(0), 0);
        due.ticks(x, 0, 0, 0, 0, 0, 0);
        due.is("address(0, 0)", x.address(0, 0), 15 * DRAW);
        due.ticks(x, 0, 2);
        due.is("address(0, 0)", x.address(0, 0), 64 + MILD);

        due.in("spoilt give");
        x = new PassiveBuses();
        x.plug(0, 0, 14);
        due.yes("spoil", x.spoil(0, false, 0));
        due.ticks(x, 2);
        due.is("waiting(0, false)", x.waiting(0, false), 0);
        due.is("given(0)", x.given(0), 1);
        due.ticks(x, 0, 0, 0, 0, 0, 0, 0, 2);
        due.is("address(0, 0)", x.address(0, 0), 65 + 15 * DRAW + MILD);
        due.is("given(0)", x.given(0), 3);

        due.in("a loose frame has no acknowledgement, but uses up what was said");
        x = new PassiveBuses();
        x.plug(0, 0, 0);
        x.spoil(0, true, 1);
        x.spoil(0, false, 1);
        due.ticks(x, 2);
        due.is("address(0, 0)", x.address(0, 0), 64 + MILD);
        x.dial(0, 0, 9);
        due.ticks(x, 2);
        due.is("waiting(0, false)", x.waiting(0, false), 0);
        due.is("waiting(0, true)", x.waiting(0, true), 1);
        due.is("cause(0, 0)", x.cause(0, 0), 1);
    }

    private static void auditOfOne(Due due) {
        due.in("audit of one");
        PassiveBuses x = Due.rig(2, 0);
        due.yes("audit", x.audit(0, 64));
        due.yes("audit", x.audit(0, 65));
        due.is("waiting(0, false)", x.waiting(0, false), 2);
        due.is("waiting(1, false)", x.waiting(1, false), 0);
        due.ticks(x, 1);
        due.is("waiting(0, true)", x.waiting(0, true), 1);
        due.ticks(x, 2, 1, 0, 0, 0, 0);
        due.no("audit while one goes on", x.audit(0, 64));
        due.is("waiting(0, false)", x.waiting(0, false), 0);
        due.ticks(x, 0);
        due.is("given(0)", x.given(0), 3);
        due.yes("audit after it", x.audit(0, 64));
        due.is("run(8)", x.run(8), 2);
        due.is("given(0)", x.given(0), 3);
        due.addresses(x, 0, 64, 65 + DRAW);
    }

    private static void auditOfNobody(Due due) {
        due.in("audit of nobody");
        PassiveBuses x = Due.rig(2, 1);
        x.unplug(0, 0);
        due.yes("audit", x.audit(0, 64));
        due.ticks(x, 1, 0, 0, 0, 0, 0, 0);
        due.is("given(0)", x.given(0), 3);
        due.ticks(x, 0);
        due.is("given(0)", x.given(0), 2);
        due.is("given(1)", x.given(1), 1);
        due.no("audit of a free address", x.audit(0, 64));
        x.plug(0, 0, 5);
        due.ticks(x, 2);
        due.addresses(x, 0, 64 + 5 * DRAW + MILD, 65 + DRAW);
    }

    /** Sockets 0 (draw 0) and 1 (draw 7) of bus 0 both have 64, all eager. */
    private static PassiveBuses rigOfTwoOnOneAddress() {
        PassiveBuses x = Due.rig(1, 0);
        x.audit(0, 64);
        x.spoil(0, false, 0);
        x.run(8);
        x.plug(0, 1, 7);
        x.run(2);
        return x;
    }

    private static void auditOfTwo(Due due) {
        due.in("audit of two");
        PassiveBuses x = rigOfTwoOnOneAddress();
        due.is("given(0)", x.given(0), 1);
        due.addresses(x, 0, 64, 64 + 7 * DRAW);
        due.yes("audit", x.audit(0, 64));
        due.ticks(x, 1);
        due.is("waiting(0, true)", x.waiting(0, true), 2);
        due.ticks(x, 1);
        due.addresses(x, 0, 64 + MILD, 64 + 7 * DRAW);
        due.ticks(x, 1, 0, 0, 0, 0);
        due.is("given(0)", x.given(0), 1);
        due.is("waiting(0, false)", x.waiting(0, false), 0);
        due.ticks(x, 0);
        due.is("given(0)", x.given(0), 0);
        due.is("waiting(0, false)", x.waiting(0, false), 1);
        due.addresses(x, 0, 64, 64 + 7 * DRAW);
        due.ticks(x, 1);
        due.addresses(x, 0, DRAW, 8 * DRAW);
        due.is("waiting(0, true)", x.waiting(0, true), 2);
        due.ticks(x, 2, 2, 0);
        due.addresses(x, 0, 64 + DRAW, 65 + 8 * DRAW);
    }

    private static void auditRefused(Due due) {
        due.in("audit refused");
        PassiveBuses x = Due.rig(1, 4);
        for (int address : new int[] {-1, 0, 63, 68, 128, Integer.MIN_VALUE, Integer.MAX_VALUE}) {
            due.no("audit(0, " + address + ")", x.audit(0, address));
            due.no("audit(1, " + address + ")", x.audit(1, address));
        }
        due.no("audit(0, 65)", x.audit(0, 65));
        due.no("audit(0, 67)", x.audit(0, 67));
        due.is("waiting(0, false)", x.waiting(0, false), 0);
        due.is("waiting(1, false)", x.waiting(1, false), 0);
        due.yes("audit(1, 67)", x.audit(1, 67));
        due.is("waiting(1, false)", x.waiting(1, false), 1);
        due.yes("audit(0, 64)", x.audit(0, 64));
    }

    private static void dropEndsAudit(Due due) {
        due.in("a drop ends the audit, and loose frames stay");
        PassiveBuses x = Due.rig(1, 0);
        x.dial(0, 0, 9);
        x.spoil(0, false, 0);
        due.ticks(x, 2);
        due.yes("audit", x.audit(0, 64));
        x.spoil(0, false, 0);
        due.ticks(x, 1);
        due.is("waiting(0, false)", x.waiting(0, false), 2);
        x.spoil(0, false, 0);
        due.ticks(x, 1);
        due.is("waiting(0, false)", x.waiting(0, false), 1);
        due.is("given(0)", x.given(0), 0);
        due.no("audit of a free address", x.audit(0, 64));
        x.plug(0, 1, 9);
        due.ticks(x, 2);
        due.is("given(0)", x.given(0), 1);
        due.yes("audit", x.audit(0, 64));
        // The old CHECK's REPLY, GIVE, the new CHECK, and two REPLYs, as both sockets have 64 now.
        due.is("run(7)", x.run(7), 5);
        due.no("audit while one goes on", x.audit(0, 64));
        due.is("given(0)", x.given(0), 1);
        due.ticks(x, 0);
        due.is("given(0)", x.given(0), 0);
    }

    private static void takeInACall(Due due) {
        due.in("take in a call");
        PassiveBuses x = rigOfTwoOnOneAddress();
        x.dial(0, 0, 1);
        due.ticks(x, 3);
        due.states(x, 0, 2, 0);
        due.is("channel(0, 0)", x.channel(0, 0), 0);
        due.yes("audit", x.audit(0, 64));
        due.is("run(8)", x.run(8), 3);
        due.is("given(0)", x.given(0), 0);
        due.phases(x, 0);
        due.holders(x, 0, 0, 0);
        due.holders(x, 1, 0, 0);
        due.states(x, 0, 2, 0);
        x.hang(0, 0);
        due.is("waiting(0, true)", x.waiting(0, true), 1);
        x.spoil(0, true, 0);
        due.ticks(x, 2);
        due.states(x, 0, 0, 0);
        due.is("reference(0, 0)", x.reference(0, 0), -1);
        due.is("channel(0, 0)", x.channel(0, 0), -1);
        due.is("cause(0, 0)", x.cause(0, 0), 0);
        due.is("waiting(0, true)", x.waiting(0, true), 2);
        due.addresses(x, 0, DRAW + MILD, 8 * DRAW);
    }
}
