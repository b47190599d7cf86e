/** What is put first when one frame, one clock or one drop puts several frames into one row of the exchange. */
public final class OrderTest {
    private static final int MILD = 2048;
    private static final int DRAW = 128;

    public static void main(String[] args) {
        Due due = new Due();
        proceedBeforeOffer(due);
        grantBeforeConnectBeforeReleases(due);
        doneBeforeRelease(due);
        callerBeforeCalled(due);
        calledByAddress(due);
        callsByNumberWhenAnAddressIsDropped(due);
        callsByNumberWhenClocksEnd(due);
        auditsByAddress(due);
        auditsByBus(due);
        takeBeforeRelease(due);
        busesInATick(due);
        due.end();
    }

    private static void proceedBeforeOffer(Due due) {
        due.in("SETUP on one bus: PROCEED, then OFFER");
        PassiveBuses x = Due.rig(2, 0);
        x.dial(0, 0, 0);
        due.ticks(x, 2);
        due.states(x, 0, 2, 0);
        due.waiting(x, 0, 0, 1);
        due.ticks(x, 1);
        due.states(x, 0, 2, 4);
    }

    /** Socket 1 of bus 0 has called bus 0, where the other three ring; nothing waits. */
    private static PassiveBuses rigRingingOnOneBus() {
        PassiveBuses x = Due.rig(4, 0);
        x.dial(0, 1, 0);
        x.run(7);
        return x;
    }

    private static void grantBeforeConnectBeforeReleases(Due due) {
        due.in("CONNECT on one bus: GRANT, then CONNECT, then RELEASE by address");
        PassiveBuses x = rigRingingOnOneBus();
        due.states(x, 0, 4, 3, 4, 4);
        due.waiting(x, 0, 0, 0);
        x.answer(0, 2);
        due.ticks(x, 2);
        due.states(x, 0, 4, 3, 6, 4);
        due.waiting(x, 0, 0, 3);
        due.ticks(x, 1);
        due.states(x, 0, 4, 6, 6, 4);
        due.ticks(x, 1);
        due.states(x, 0, 0, 6, 6, 4);
        due.ticks(x, 2);
        due.states(x, 0, 0, 6, 6, 0);
    }

    private static void doneBeforeRelease(Due due) {
        due.in("RELEASE on one bus: DONE, then what the end of the call puts");
        PassiveBuses x = rigRingingOnOneBus();
        x.hang(0, 1);
        due.ticks(x, 2);
        due.states(x, 0, 4, 0, 4, 4);
        due.waiting(x, 0, 0, 3);
        due.ticks(x, 1);
        due.states(x, 0, 0, 0, 4, 4);
    }

    private static void callerBeforeCalled(Due due) {
        due.in("the end of a call on one bus: RELEASE to the caller, then to the called by address");
        PassiveBuses x = rigRingingOnOneBus();
        due.phases(x, 2);
        // The ALERT came in the third tick of the call, so that its clock ends in the forty-second.
        due.is("run(34)", x.run(34), 0);
        due.phases(x, 2);
        due.ticks(x, 0);
        due.phases(x, 4);
        due.waiting(x, 0, 0, 4);
        due.ticks(x, 1);
        due.states(x, 0, 4, 0, 4, 4);
        due.ticks(x, 2);
        due.states(x, 0, 0, 0, 4, 4);
        due.ticks(x, 2);
        due.states(x, 0, 0, 0, 0, 4);
        due.ticks(x, 2);
        due.states(x, 0, 0, 0, 0, 0);
        due.causes(x, 0, 9, 9, 9, 9);
    }

    private static void calledByAddress(Due due) {
        due.in("the end of a call: RELEASE to the called by address, not by socket");
        PassiveBuses x = Due.rig(1, 0);
        for (int socket = 3; socket >= 0; socket--) {
            x.plug(1, socket, 1);
            x.run(2);
        }
        due.is("address(1, 3)", x.address(1, 3) & 127, 64);
        due.is("address(1, 0)", x.address(1, 0) & 127, 67);
        x.dial(0, 0, 1);
        x.run(6);
        due.states(x, 1, 4, 4, 4, 4);
        x.hang(0, 0);
        due.ticks(x, 3);
        due.states(x, 1, 4, 4, 4, 0);
        due.ticks(x, 2);
        due.states(x, 1, 4, 4, 0, 0);
    }

    private static void callsByNumberWhenAnAddressIsDropped(Due due) {
        due.in("a dropped address ends its calls by number");
        PassiveBuses x = new PassiveBuses();
        x.plug(0, 0, 9);
        x.plug(0, 1, 9);
        x.plug(1, 1, 0);
        x.run(2);
        // Dials in vain, until the next SETUP of socket 1 has the bit that is due, and then that of socket 0.
        x.dial(0, 0, 9);
        x.run(4);
        x.dial(0, 1, 9);
        x.run(1);
        x.hang(0, 1);
        x.run(3);
        x.dial(0, 1, 1);
        x.run(3);
        x.plug(1, 0, 1);
        x.run(2);
        due.is("address(1, 1)", x.address(1, 1) & 127, 64);
        due.is("address(1, 0)", x.address(1, 0) & 127, 65);
        x.dial(0, 0, 1);
        x.run(4);
        due.phases(x, 2, 2);
        due.states(x, 1, 4, 4);
        due.is("reference(1, 1)", x.reference(1, 1), 2);
        due.is("reference(1, 0)", x.reference(1, 0), 4);
        x.audit(0, 64);
        x.spoil(0, false, 0);
        due.is("run(8)", x.run(8), 1);
        due.phases(x, 4, 4);
        due.waiting(x, 1, 0, 2);
        due.ticks(x, 1);
        due.states(x, 1, 4, 0);
        due.ticks(x, 2);
        due.states(x, 1, 0, 0);
    }

    private static void callsByNumberWhenClocksEnd(Due due) {
        due.in("two calls whose clocks end in one tick end by number");
        PassiveBuses x = Due.rig(2, 2);
        x.dial(0, 0, 1);
        x.dial(1, 0, 0);
        x.run(1);
        x.spoil(1, true, 0);
        x.run(1);
        due.phases(x, 1, 1);
        x.run(1);
        due.phases(x, 2, 2);
        x.run(38);
        due.phases(x, 2, 2);
        x.run(1);
        due.phases(x, 4, 4);
        due.waiting(x, 0, 0, 2);
        due.waiting(x, 1, 0, 2);
        due.states(x, 0, 3, 4);
        due.states(x, 1, 3, 4);
        x.run(1);
        due.states(x, 0, 0, 4);
        due.states(x, 1, 3, 0);
        x.run(1);
        due.states(x, 0, 0, 0);
        due.states(x, 1, 0, 0);
    }

    private static void auditsByAddress(Due due) {
        due.in("two audits that end in one tick end by address");
        PassiveBuses x = new PassiveBuses();
        x.plug(0, 0, 1);
        x.plug(0, 1, 2);
        x.run(3);
        x.audit(0, 64);
        x.audit(0, 65);
        for (int i = 0; i < 2; i++) {
            x.spoil(0, false, 0);
            x.run(1);
        }
        x.run(6);
        due.is("given(0)", x.given(0), 0);
        x.plug(0, 2, 3);
        x.plug(0, 3, 4);
        x.run(3);
        due.addresses(x, 0, 64 + DRAW, 65 + 2 * DRAW, 64 + 3 * DRAW, 65 + 4 * DRAW);
        x.audit(0, 65);
        x.audit(0, 64);
        due.is("run(8)", x.run(8), 6);
        due.is("given(0)", x.given(0), 0);
        due.waiting(x, 0, 0, 2);
        x.run(1);
        due.addresses(x, 0, 2 * DRAW, 65 + 2 * DRAW, 4 * DRAW, 65 + 4 * DRAW);
        x.run(1);
        due.is("address(0, 1)", x.address(0, 1) & ~MILD, 3 * DRAW);
        due.is("address(0, 3)", x.address(0, 3) & ~MILD, 5 * DRAW);
    }

    private static void auditsByBus(Due due) {
        due.in("two audits that end in one tick: that of bus 0 first");
        PassiveBuses x = new PassiveBuses();
        x.plug(0, 0, 0);
        x.plug(1, 0, 1);
        x.run(2);
        x.audit(1, 64);
        x.spoil(1, false, 0);
        x.run(8);
        x.plug(1, 1, 2);
        x.run(2);
        x.plug(1, 2, 3);
        x.run(2);
        due.addresses(x, 1, 64 + DRAW, 64 + 2 * DRAW, 65 + 3 * DRAW);
        x.dial(0, 0, 1);
        x.run(6);
        x.answer(1, 2);
        x.run(5);
        due.states(x, 0, 6);
        due.states(x, 1, 0, 0, 6);
        x.audit(0, 64);
        x.spoil(0, false, 0);
        x.audit(1, 64);
        x.run(8);
        due.is("given(0)", x.given(0), 0);
        due.is("given(1)", x.given(1), 2);
        due.waiting(x, 1, 0, 2);
        x.run(1);
        due.states(x, 1, 0, 0, 0);
        due.addresses(x, 1, 64 + DRAW, 64 + 2 * DRAW);
        x.run(1);
        due.is("address(1, 0)", x.address(1, 0) & ~MILD, 2 * DRAW);
        due.is("address(1, 1)", x.address(1, 1) & ~MILD, 3 * DRAW);
    }

    private static void takeBeforeRelease(Due due) {
        due.in("an audit that ends with 2: TAKE, then what the drop puts");
        PassiveBuses x = new PassiveBuses();
        x.plug(0, 0, 1);
        x.run(2);
        x.audit(0, 64);
        x.spoil(0, false, 0);
        x.run(8);
        x.plug(0, 1, 2);
        x.run(2);
        x.plug(0, 2, 3);
        x.run(3);
        due.addresses(x, 0, 64 + DRAW, 64 + 2 * DRAW, 65 + 3 * DRAW);
        x.dial(0, 0, 0);
        x.run(7);
        due.phases(x, 2);
        due.states(x, 0, 3, 4, 4);
        x.audit(0, 64);
        x.run(8);
        due.is("given(0)", x.given(0), 2);
        due.phases(x, 4);
        due.waiting(x, 0, 0, 2);
        x.run(1);
        due.states(x, 0, 0, 0, 4);
        due.addresses(x, 0, 2 * DRAW, 3 * DRAW, 65 + 3 * DRAW);
        x.run(1);
        due.states(x, 0, 0, 0, 0);
        due.causes(x, 0, 0, 0, 6);
    }

    private static void busesInATick(Due due) {
        due.in("bus 0 before bus 1, up before down, in one tick");
        PassiveBuses x = Due.rig(1, 1);
        x.dial(0, 0, 1);
        due.ticks(x, 3);
        due.states(x, 0, 2);
        due.states(x, 1, 4);
        x = Due.rig(1, 1);
        x.dial(1, 0, 0);
        due.ticks(x, 2);
        due.states(x, 0, 0);
        due.states(x, 1, 2);
        due.waiting(x, 0, 0, 1);
        due.ticks(x, 1);
        due.states(x, 0, 4);
    }
}
