/** Every clock one tick before it is 0, at 0 and after: of terminals (8), audits (8), offers (10, twice) and alerts (40). */
public final class ClocksTest {
    private static final int MILD = 2048;
    private static final int DRAW = 128;

    public static void main(String[] args) {
        Due due = new Due();
        requestClock(due);
        requestClockStopsWithAnAddress(due);
        requestClockAfterALostLink(due);
        requestClockAfterTake(due);
        giveInTheLastTick(due);
        auditClock(due);
        replyInTheLastTick(due);
        offerClock(due);
        alertInTheLastTickOfTheFirstOffer(due);
        alertInTheLastTickOfTheSecondOffer(due);
        alertClock(due);
        secondAlertLeavesTheClock(due);
        connectInTheLastTick(due);
        noClockWhenTalking(due);
        auditsBeforeCalls(due);
        due.end();
    }

    private static void requestClock(Due due) {
        due.in("a terminal without an address asks again in the eighth tick, and in the sixteenth");
        PassiveBuses x = new PassiveBuses();
        x.plug(0, 0, 5);
        x.spoil(0, true, 0);
        due.ticks(x, 1, 0, 0, 0, 0, 0, 0);
        due.addresses(x, 0, 5 * DRAW);
        due.waiting(x, 0, 0, 0);
        due.ticks(x, 0);
        due.addresses(x, 0, 6 * DRAW);
        due.waiting(x, 0, 1, 0);
        x.spoil(0, true, 0);
        due.ticks(x, 1, 0, 0, 0, 0, 0, 0);
        due.addresses(x, 0, 6 * DRAW);
        due.ticks(x, 0);
        due.addresses(x, 0, 7 * DRAW);
        due.waiting(x, 0, 1, 0);
        due.ticks(x, 2);
        due.addresses(x, 0, 64 + 7 * DRAW + MILD);
    }

    private static void requestClockStopsWithAnAddress(Due due) {
        due.in("the clock of a terminal with an address does not go");
        PassiveBuses x = new PassiveBuses();
        x.plug(0, 0, 5);
        due.ticks(x, 2);
        due.is("run(60)", x.run(60), 0);
        due.addresses(x, 0, 64 + 5 * DRAW);
    }

    private static void requestClockAfterALostLink(Due due) {
        due.in("after a lost link the clock is 8 again, in that tick already");
        PassiveBuses x = Due.rig(1, 0);
        x.dial(0, 0, 9);
        for (int i = 0; i < 3; i++) {
            x.spoil(0, true, 0);
            due.ticks(x, 1);
        }
        due.addresses(x, 0, DRAW + MILD);
        x.spoil(0, true, 0);
        due.ticks(x, 1, 0, 0, 0, 0, 0);
        due.addresses(x, 0, DRAW);
        due.waiting(x, 0, 0, 0);
        due.ticks(x, 0);
        due.addresses(x, 0, 2 * DRAW);
        due.waiting(x, 0, 1, 0);
    }

    private static void requestClockAfterTake(Due due) {
        due.in("after TAKE the clock is 8 again, in that tick already");
        PassiveBuses x = Due.rig(1, 0);
        x.audit(0, 64);
        x.spoil(0, false, 0);
        x.run(8);
        x.plug(0, 1, 7);
        x.run(2);
        x.audit(0, 64);
        x.run(8);
        due.addresses(x, 0, 64, 64 + 7 * DRAW);
        due.ticks(x, 1);
        due.addresses(x, 0, DRAW, 8 * DRAW);
        x.spoil(0, true, 0);
        due.ticks(x, 1);
        x.spoil(0, true, 0);
        due.ticks(x, 1, 0, 0, 0, 0);
        due.addresses(x, 0, DRAW, 8 * DRAW);
        due.waiting(x, 0, 0, 0);
        due.ticks(x, 0);
        due.addresses(x, 0, 2 * DRAW, 9 * DRAW);
        due.waiting(x, 0, 2, 0);
    }

    /** Three frames hold back the GIVE for socket 3, until its eighth tick or one longer. */
    private static PassiveBuses rigWithLateGive(boolean inTime) {
        PassiveBuses x = Due.rig(3, 0);
        for (int socket = 0; socket < 3; socket++) {
            x.dial(0, socket, 9);
        }
        x.spoil(0, false, 0);
        x.run(1);
        x.plug(0, 3, 5);
        int[] failing = inTime ? new int[] {1, 2, 1} : new int[] {1, 2, 2};
        for (int failures : failing) {
            for (int i = 0; i < failures; i++) {
                x.spoil(0, false, 0);
                x.run(1);
            }
            x.run(1);
        }
        return x;
    }

    private static void giveInTheLastTick(Due due) {
        due.in("GIVE in the eighth tick is taken with the old draw");
        PassiveBuses x = rigWithLateGive(true);
        due.is("time()", x.time(), 6 + 7);
        due.is("address(0, 3)", x.address(0, 3) & ~MILD, 5 * DRAW);
        due.is("waiting(0, false)", x.waiting(0, false), 1);
        x.run(1);
        due.is("address(0, 3)", x.address(0, 3) & ~MILD, 67 + 5 * DRAW);

        due.in("GIVE in the ninth tick is no more for that terminal");
        x = rigWithLateGive(false);
        due.is("time()", x.time(), 6 + 8);
        due.is("address(0, 3)", x.address(0, 3) & ~MILD, 6 * DRAW);
        due.is("waiting(0, false)", x.waiting(0, false), 1);
        x.run(1);
        due.is("address(0, 3)", x.address(0, 3) & ~MILD, 6 * DRAW);
        due.is("given(0)", x.given(0), 15);
    }

    private static void auditClock(Due due) {
        due.in("an audit is over in the eighth tick");
        PassiveBuses x = Due.rig(2, 0);
        x.unplug(0, 0);
        x.run(1);
        due.yes("audit", x.audit(0, 64));
        due.ticks(x, 1, 0, 0, 0, 0, 0, 0);
        due.is("given(0)", x.given(0), 3);
        due.no("audit", x.audit(0, 64));
        due.ticks(x, 0);
        due.is("given(0)", x.given(0), 2);
    }

    private static void replyInTheLastTick(Due due) {
        due.in("a REPLY in the eighth tick counts, one in the ninth does not");
        PassiveBuses x = Due.rig(3, 0);
        for (int socket = 0; socket < 3; socket++) {
            x.dial(0, socket, 9);
        }
        for (int i = 0; i < 2; i++) {
            x.spoil(0, false, 0);
            x.run(1);
        }
        x.run(1);
        due.is("waiting(0, false)", x.waiting(0, false), 2);
        x.audit(0, 65);
        x.audit(0, 64);
        for (int frame = 0; frame < 2; frame++) {
            for (int i = 0; i < 2; i++) {
                x.spoil(0, false, 0);
                x.run(1);
            }
            x.run(1);
        }
        // Two RELEASEs took six ticks; in the next goes the CHECK of 65, then that of 64, with the REPLY of 65.
        due.waiting(x, 0, 1, 2);
        due.ticks(x, 2);
        due.waiting(x, 0, 1, 1);
        due.is("given(0)", x.given(0), 7);
        due.ticks(x, 2);
        due.waiting(x, 0, 1, 0);
        due.is("given(0)", x.given(0), 6);
        due.ticks(x, 1, 0);
        due.is("given(0)", x.given(0), 6);
    }

    private static void offerClock(Due due) {
        due.in("a call is offered again in the tenth tick and ends in the twentieth");
        PassiveBuses x = Due.rig(1, 0);
        x.dial(0, 0, 1);
        due.ticks(x, 3, 0, 0, 0, 0, 0, 0, 0, 0);
        due.waiting(x, 1, 0, 0);
        due.phases(x, 1);
        due.ticks(x, 0);
        due.waiting(x, 1, 0, 1);
        due.phases(x, 1);
        due.ticks(x, 1, 0, 0, 0, 0, 0, 0, 0, 0);
        due.waiting(x, 1, 0, 0);
        due.waiting(x, 0, 0, 0);
        due.phases(x, 1);
        due.ticks(x, 0);
        due.waiting(x, 1, 0, 0);
        due.waiting(x, 0, 0, 1);
        due.phases(x, 4);
        due.ticks(x, 1, 1, 0);
        due.causes(x, 0, 8);
        due.phases(x, 0);
    }

    /** A tick in which what goes down on bus 1 is spoilt, if it is said so. */
    private static void tick(PassiveBuses x, boolean spoilt) {
        if (spoilt) {
            x.spoil(1, false, 0);
        }
        x.run(1);
    }

    private static void alertInTheLastTickOfTheFirstOffer(Due due) {
        for (int checks = 2; checks <= 3; checks++) {
            due.in("ALERT in tick " + (8 + checks) + " of a call");
            PassiveBuses x = Due.rig(1, 4);
            for (int socket = 0; socket < 3; socket++) {
                x.dial(1, socket, 9);
            }
            tick(x, true);
            tick(x, true);
            tick(x, false);
            // Two RELEASEs, of three ticks each, and the CHECKs go before the OFFER.
            for (int i = 0; i < checks; i++) {
                x.audit(1, 64 + i);
            }
            x.dial(0, 0, 1);
            for (int i = 1; i <= 6 + checks; i++) {
                tick(x, i <= 6 && i % 3 != 0);
            }
            due.is("waiting(1, false)", x.waiting(1, false), 1);
            due.states(x, 1, 0, 0, 0, 0);
            tick(x, false);
            due.states(x, 1, 4, 4, 4, 4);
            due.phases(x, 1);
            due.is("second OFFERs", x.waiting(1, false), checks == 2 ? 0 : 1);
            tick(x, false);
            due.phases(x, 2);
            due.is("waiting(1, false)", x.waiting(1, false), 0);
            x.run(38);
            due.phases(x, 2);
            x.run(1);
            due.phases(x, 4);
        }
    }

    private static void alertInTheLastTickOfTheSecondOffer(Due due) {
        for (int checks = 2; checks <= 3; checks++) {
            due.in("ALERT in tick " + (18 + checks) + " of a call");
            PassiveBuses x = Due.rig(1, 4);
            x.dial(0, 0, 1);
            tick(x, true);
            due.is("run(6)", x.run(6), 0);
            for (int socket = 0; socket < 3; socket++) {
                x.dial(1, socket, 9);
            }
            tick(x, true);
            tick(x, true);
            // One RELEASE is before the CHECKs, one behind them; they go before the second OFFER.
            for (int i = 0; i < checks; i++) {
                x.audit(1, 64 + i);
            }
            tick(x, false);
            due.is("waiting(1, false)", x.waiting(1, false), 3 + checks);
            for (int i = 1; i <= 6 + checks; i++) {
                tick(x, i == 1 || i == 2 || i == 4 + checks || i == 5 + checks);
            }
            due.is("waiting(1, false)", x.waiting(1, false), 1);
            due.states(x, 1, 0, 0, 0, 0);
            due.phases(x, 1);
            tick(x, false);
            due.states(x, 1, 4, 4, 4, 4);
            due.phases(x, checks == 2 ? 1 : 4);
            tick(x, false);
            due.phases(x, checks == 2 ? 2 : 4);
            x.run(1);
            due.states(x, 0, checks == 2 ? 3 : 0);
            due.causes(x, 0, checks == 2 ? 0 : 8);
            due.states(x, 1, checks == 2 ? 4 : 0, checks == 2 ? 4 : 0, 4, 4);
            due.causes(x, 1, checks == 2 ? 1 : 5);
        }
    }

    /** Socket 0 of bus 0 has called; socket 0 of bus 1 rings; its ALERT came up in the latest tick, the second one. */
    private static PassiveBuses rigJustAlerting(int onBus1) {
        PassiveBuses x = Due.rig(1, onBus1);
        x.dial(0, 0, 1);
        x.run(2);
        return x;
    }

    private static void alertClock(Due due) {
        due.in("a call that rings ends in the fortieth tick");
        PassiveBuses x = rigJustAlerting(1);
        due.phases(x, 2);
        due.is("run(38)", x.run(38), 1);
        due.phases(x, 2);
        due.waiting(x, 0, 0, 0);
        due.waiting(x, 1, 0, 0);
        due.ticks(x, 0);
        due.phases(x, 4);
        due.waiting(x, 0, 0, 1);
        due.waiting(x, 1, 0, 1);
        due.ticks(x, 2);
        due.causes(x, 0, 9);
        due.causes(x, 1, 9);
    }

    private static void secondAlertLeavesTheClock(Due due) {
        due.in("the ALERT of a second terminal leaves the clock alone");
        PassiveBuses x = rigJustAlerting(2);
        due.phases(x, 2);
        due.waiting(x, 1, 1, 0);
        due.is("run(38)", x.run(38), 2);
        due.phases(x, 2);
        due.ticks(x, 0);
        due.phases(x, 4);
    }

    private static void connectInTheLastTick(Due due) {
        due.in("CONNECT in the fortieth tick wins");
        PassiveBuses x = rigJustAlerting(1);
        x.run(38);
        x.answer(1, 0);
        due.ticks(x, 2);
        due.phases(x, 3);
        due.states(x, 1, 6);
        due.ticks(x, 1);
        due.states(x, 0, 6);

        due.in("CONNECT in the forty-first tick does nothing");
        x = rigJustAlerting(1);
        x.run(39);
        due.phases(x, 4);
        x.answer(1, 0);
        due.ticks(x, 3);
        due.phases(x, 4);
        due.states(x, 0, 0);
        due.states(x, 1, 0);
        due.causes(x, 1, 9);
        due.waiting(x, 1, 1, 0);
        due.ticks(x, 2, 0);
        due.phases(x, 0);

        due.in("CONNECT that is spoilt in the fortieth tick does nothing");
        x = rigJustAlerting(1);
        x.run(38);
        x.answer(1, 0);
        x.spoil(1, true, 0);
        due.ticks(x, 1);
        due.phases(x, 4);
    }

    private static void noClockWhenTalking(Due due) {
        due.in("a call that talks has no end of itself");
        PassiveBuses x = rigJustAlerting(1);
        x.answer(1, 0);
        x.run(2);
        due.is("run(60)", x.run(60), 0);
        due.is("run(60)", x.run(60), 0);
        due.phases(x, 3);
    }

    private static void auditsBeforeCalls(Due due) {
        due.in("audits come before calls: the call ends since its caller is gone, not by its own clock");
        PassiveBuses x = rigJustAlerting(1);
        x.run(31);
        x.unplug(0, 0);
        x.audit(0, 64);
        x.run(7);
        due.phases(x, 2);
        due.is("given(0)", x.given(0), 1);
        due.ticks(x, 0);
        due.phases(x, 4);
        due.is("given(0)", x.given(0), 0);
        due.ticks(x, 1);
        due.causes(x, 1, 6);
    }
}
