/** What there is only so much of: addresses, calls, channels; the last one, none left, and one free again. */
public final class CapacityTest {
    private static final int MILD = 2048;
    private static final int DRAW = 128;

    public static void main(String[] args) {
        Due due = new Due();
        lastAddress(due);
        addressFreeAgain(due);
        replies(due);
        fourCalls(due);
        channelsOfTheCallersBus(due);
        channelsOfTheCalledBus(due);
        channelsOfOneBus(due);
        leastFreeChannel(due);
        callersChannelHeld(due);
        calledChannelHeldWhileOffered(due);
        calledChannelHeldWhileRinging(due);
        winnersChannelHeld(due);
        losersHoldNothing(due);
        due.end();
    }

    private static void lastAddress(Due due) {
        due.in("the fourth address is given out, a fifth is not there");
        PassiveBuses x = new PassiveBuses();
        int[] given = {1, 3, 7, 15};
        for (int socket = 0; socket < 4; socket++) {
            x.plug(0, socket, socket);
            due.ticks(x, 2);
            due.is("address", x.address(0, socket), 64 + socket + DRAW * socket + MILD);
            due.is("given(0)", x.given(0), given[socket]);
        }
        x.unplug(0, 0);
        x.plug(0, 0, 9);
        due.ticks(x, 1);
        due.is("address(0, 0)", x.address(0, 0), 9 * DRAW + MILD);
        due.is("given(0)", x.given(0), 15);
        due.waiting(x, 0, 0, 0);
        due.is("given(1)", x.given(1), 0);
    }

    private static void addressFreeAgain(Due due) {
        due.in("an address that is free again is given out, the least of them first");
        PassiveBuses x = Due.rig(4, 0);
        for (int socket = 1; socket <= 3; socket++) {
            x.unplug(0, socket);
        }
        x.audit(0, 66);
        x.run(1);
        x.audit(0, 65);
        x.run(6);
        x.plug(0, 1, 8);
        due.is("given(0)", x.given(0), 15);
        x.run(1);
        // The REQUEST of this tick came while all four were given out; 66 is free since its end.
        due.is("given(0)", x.given(0), 11);
        due.is("address(0, 1)", x.address(0, 1), 8 * DRAW + MILD);
        x.run(1);
        due.is("given(0)", x.given(0), 9);
        x.plug(0, 2, 3);
        due.ticks(x, 2);
        due.is("address(0, 2)", x.address(0, 2), 65 + 3 * DRAW + MILD);
        due.is("given(0)", x.given(0), 11);
        x.plug(0, 3, 4);
        due.ticks(x, 2);
        due.is("address(0, 3)", x.address(0, 3), 66 + 4 * DRAW + MILD);
        due.is("given(0)", x.given(0), 15);
    }

    /** So many terminals of bus 0, with the draws 1, 2, .., all have the address 64, and the exchange has it given out. */
    private static PassiveBuses rigOnOneAddress(int terminals) {
        PassiveBuses x = new PassiveBuses();
        for (int socket = 0; socket < terminals; socket++) {
            if (socket > 0) {
                // Nobody hears the CHECK, so that 64 is free at the exchange and given to the next one, too.
                x.audit(0, 64);
                x.spoil(0, false, 0);
                x.run(8);
            }
            x.plug(0, socket, socket + 1);
            x.run(2);
        }
        return x;
    }

    private static void replies(Due due) {
        for (int terminals = 0; terminals <= 4; terminals++) {
            due.in("an audit with " + terminals + " REPLYs");
            PassiveBuses x = rigOnOneAddress(Math.max(1, terminals));
            for (int socket = 0; socket < terminals; socket++) {
                due.is("address", x.address(0, socket) & ~MILD, 64 + DRAW * (socket + 1));
            }
            if (terminals == 0) {
                x.unplug(0, 0);
            }
            due.is("given(0)", x.given(0), 1);
            due.yes("audit", x.audit(0, 64));
            due.is("run(7)", x.run(7), 1 + terminals);
            due.is("given(0)", x.given(0), 1);
            due.waiting(x, 0, 0, 0);
            x.run(1);
            due.is("given(0)", x.given(0), terminals == 1 ? 1 : 0);
            due.waiting(x, 0, 0, terminals >= 2 ? 1 : 0);
            x.run(1);
            for (int socket = 0; socket < terminals; socket++) {
                int want = terminals == 1 ? 64 + DRAW : DRAW * (socket + 2);
                due.is("address", x.address(0, socket) & ~MILD, want);
            }
            due.waiting(x, 0, terminals >= 2 ? terminals : 0, 0);
        }
    }

    private static void fourCalls(Due due) {
        due.in("four calls: the fourth is made, the fifth refused with cause 2, after 1 and before 3 and 4");
        PassiveBuses x = Due.rig(4, 1);
        x.dial(0, 0, 1);
        x.run(4);
        x.plug(1, 1, 1);
        x.plug(1, 2, 2);
        x.run(3);
        x.dial(0, 1, 1);
        x.run(6);
        due.phases(x, 2, 2);
        // Nobody is there to be released, and CHECKs hold the RELEASEs back: both calls are ENDING for some ticks.
        x.unplug(1, 0);
        x.unplug(1, 1);
        for (int address = 64; address <= 66; address++) {
            x.audit(1, address);
        }
        x.hang(0, 0);
        x.hang(0, 1);
        x.run(2);
        due.phases(x, 4, 4, 0);
        x.dial(0, 2, 1);
        x.run(1);
        due.phases(x, 4, 4, 1, 0);
        x.dial(0, 3, 1);
        x.run(1);
        due.phases(x, 4, 4, 1, 1, 0);
        due.holders(x, 0, 3, 4);
        due.holders(x, 1, 3, 4);
        x.dial(0, 0, 2);
        x.dial(0, 1, 1);
        x.run(1);
        due.states(x, 0, 0, 1, 2, 2);
        due.causes(x, 0, 1, 0, 0, 0);
        due.phases(x, 4, 4, 1, 1, 0);
        x.run(1);
        due.states(x, 0, 0, 0, 2, 2);
        due.causes(x, 0, 1, 2, 0, 0);

        due.in("three calls again, but no channel of either bus: cause 3");
        due.phases(x, 0, 4, 1, 1, 0);
        x.dial(0, 1, 1);
        x.run(3);
        due.causes(x, 0, 1, 3, 0, 0);
        due.phases(x, 0, 4, 1, 1, 0);

        due.in("a call is made again when one is no more, with the next number");
        x.hang(0, 2);
        x.run(3);
        due.is("phase(3)", x.phase(3), 0);
        x.dial(0, 1, 1);
        x.run(1);
        due.is("phase(5)", x.phase(5), 1);
        due.is("phase(6)", x.phase(6), 0);
        due.holders(x, 0, 5, 4);
    }

    private static void channelsOfTheCallersBus(Due due) {
        due.in("a channel of the caller's bus: two calls have one each, the third has none: cause 3");
        PassiveBuses x = Due.rig(3, 0);
        x.dial(0, 0, 1);
        x.run(1);
        due.holders(x, 0, 1, 0);
        x.dial(0, 1, 1);
        x.run(1);
        due.holders(x, 0, 1, 2);
        due.is("channel(0, 0)", x.channel(0, 0), 0);
        due.is("channel(0, 1)", x.channel(0, 1), 1);
        x.dial(0, 2, 1);
        due.ticks(x, 2);
        due.states(x, 0, 2, 2, 0);
        due.causes(x, 0, 0, 0, 3);
        due.phases(x, 1, 1, 0);
    }

    private static void channelsOfTheCalledBus(Due due) {
        due.in("a channel of the called bus: one held, two held by a call on it: cause 4");
        PassiveBuses x = Due.rig(2, 1);
        x.dial(0, 0, 1);
        x.run(1);
        due.holders(x, 1, 1, 0);
        x.hang(0, 0);
        x.run(3);
        due.phases(x, 0);
        due.states(x, 1, 0);
        x.dial(1, 0, 1);
        x.run(1);
        due.holders(x, 1, 2, 2);
        due.holders(x, 0, 0, 0);
        x.dial(0, 0, 1);
        due.ticks(x, 3);
        due.states(x, 0, 0, 0);
        due.causes(x, 0, 4, 0);
        due.holders(x, 0, 0, 0);
        due.phases(x, 0, 1, 0);

        due.in("a wrong number is cause 1 when no channel is free");
        x.dial(0, 1, 2);
        x.run(2);
        due.causes(x, 0, 4, 1);
    }

    private static void channelsOfOneBus(Due due) {
        due.in("a call on one bus needs two channels of it: both free");
        PassiveBuses x = Due.rig(3, 0);
        x.dial(0, 0, 0);
        x.run(1);
        due.holders(x, 0, 1, 1);
        due.is("channel(0, 0)", x.channel(0, 0), 0);

        due.in("a call on one bus needs two channels of it: one free");
        x = Due.rig(3, 0);
        x.dial(0, 0, 1);
        x.run(1);
        due.holders(x, 0, 1, 0);
        x.dial(0, 1, 0);
        due.ticks(x, 2);
        due.causes(x, 0, 0, 4, 0);
        due.holders(x, 0, 1, 0);
        due.phases(x, 1, 0);

        due.in("a call on one bus needs two channels of it: none free");
        x.dial(0, 1, 1);
        x.run(2);
        due.holders(x, 0, 1, 2);
        x.dial(0, 2, 0);
        x.run(2);
        due.causes(x, 0, 0, 4, 3);
        due.phases(x, 1, 1, 0);
    }

    private static void leastFreeChannel(Due due) {
        due.in("the least free channel is taken on each bus");
        PassiveBuses x = Due.rig(4, 0);
        x.dial(0, 0, 1);
        x.run(1);
        x.dial(0, 1, 1);
        x.run(1);
        x.hang(0, 0);
        x.run(1);
        due.holders(x, 0, 0, 2);
        due.holders(x, 1, 0, 2);
        x.dial(0, 2, 1);
        x.run(1);
        due.holders(x, 0, 3, 2);
        due.holders(x, 1, 3, 2);
        due.is("channel(0, 2)", x.channel(0, 2), 0);
        x.hang(0, 1);
        x.run(1);
        due.holders(x, 0, 3, 0);
        x.dial(0, 3, 1);
        x.run(1);
        due.holders(x, 0, 3, 4);
        due.holders(x, 1, 3, 4);
        due.is("channel(0, 3)", x.channel(0, 3), 1);
    }

    /** Socket 0 of bus 0 has called bus 1, where two ring. */
    private static PassiveBuses rigRinging() {
        PassiveBuses x = Due.rig(1, 2);
        x.dial(0, 0, 1);
        x.run(5);
        return x;
    }

    private static void callersChannelHeld(Due due) {
        due.in("the caller's channel is held while its leg is LIVE, and LEAVING, and free when it is gone");
        PassiveBuses x = Due.rig(1, 0);
        x.dial(0, 0, 1);
        due.holders(x, 0, 0, 0);
        due.is("run(19)", x.run(19), 4);
        due.holders(x, 0, 1, 0);
        due.ticks(x, 0);
        due.phases(x, 4);
        due.holders(x, 0, 1, 0);
        due.ticks(x, 1);
        due.states(x, 0, 0);
        due.is("channel(0, 0)", x.channel(0, 0), -1);
        due.holders(x, 0, 1, 0);
        due.ticks(x, 1);
        due.holders(x, 0, 0, 0);
        due.phases(x, 0);
    }

    private static void calledChannelHeldWhileOffered(Due due) {
        due.in("the called bus's channel is held while the call is OFFERED, and free when it is ENDING");
        PassiveBuses x = Due.rig(1, 0);
        x.dial(0, 0, 1);
        due.is("run(19)", x.run(19), 4);
        due.phases(x, 1);
        due.holders(x, 1, 1, 0);
        due.ticks(x, 0);
        due.phases(x, 4);
        due.holders(x, 1, 0, 0);
    }

    private static void calledChannelHeldWhileRinging(Due due) {
        due.in("the called bus's channel is held while the call is ALERTING, and free when it is ENDING");
        PassiveBuses x = rigRinging();
        due.phases(x, 2);
        due.holders(x, 1, 1, 0);
        x.hang(1, 0);
        x.run(1);
        due.phases(x, 2);
        due.holders(x, 1, 1, 0);
        x.hang(1, 1);
        x.run(1);
        due.phases(x, 4);
        due.holders(x, 0, 1, 0);
        due.holders(x, 1, 0, 0);
    }

    private static void winnersChannelHeld(Due due) {
        due.in("the winner's channel is held while its leg is there, LEAVING too, and free when it is gone");
        PassiveBuses x = rigRinging();
        x.answer(1, 1);
        x.run(5);
        due.phases(x, 3);
        due.holders(x, 0, 1, 0);
        due.holders(x, 1, 1, 0);
        x.hang(0, 0);
        due.ticks(x, 3);
        due.phases(x, 4);
        due.holders(x, 0, 0, 0);
        due.holders(x, 1, 1, 0);
        due.states(x, 1, 0, 0);
        due.ticks(x, 1);
        due.phases(x, 0);
        due.holders(x, 1, 0, 0);

        due.in("the winner's channel is free when the winner hangs up, the caller's when it has left");
        x = rigRinging();
        x.answer(1, 1);
        x.run(5);
        x.hang(1, 1);
        due.ticks(x, 2);
        due.phases(x, 4);
        due.holders(x, 0, 1, 0);
        due.holders(x, 1, 0, 0);
        due.ticks(x, 1, 1);
        due.phases(x, 0);
        due.holders(x, 0, 0, 0);
    }

    private static void losersHoldNothing(Due due) {
        due.in("a leg that rang and is LEAVING holds no channel when the winner's is gone");
        PassiveBuses x = rigRinging();
        x.answer(1, 1);
        // The loser is not there any more, so that its leg stays LEAVING for a while.
        x.unplug(1, 0);
        due.ticks(x, 2);
        due.phases(x, 3);
        x.hang(1, 1);
        due.ticks(x, 3);
        due.phases(x, 4);
        due.holders(x, 0, 1, 0);
        due.holders(x, 1, 0, 0);
    }
}
