/** A frame may fail twice; at its third failure the link is lost, at the terminal that sends it or at the exchange. */
public final class FailuresTest {
    private static final int MILD = 2048;
    private static final int DRAW = 128;
    private static final int SETUP = 0;
    private static final int PROCEED = 1;
    private static final int ALERT = 2;
    private static final int CONNECT = 3;
    private static final int GRANT = 4;
    private static final int RELEASE = 5;
    private static final int DONE = 6;

    /** What is spoilt at each of three sendings: the frame (0) or its acknowledgement (1). */
    private static final int[][] WAYS = {{0, 0, 0}, {1, 1, 1}, {0, 1, 0}, {1, 0, 1}, {0, 0, 1}, {1, 1, 0}};

    public static void main(String[] args) {
        Due due = new Due();
        everyKindFromATerminal(due);
        everyKindFromTheExchange(due);
        doneOnceWhateverFails(due);
        nextFrameBeginsAnew(due);
        nextFrameOfTheExchangeBeginsAnew(due);
        othersBetween(due);
        togetherButEachItsOwn(due);
        notGivenOut(due);
        nobodyWithTheAddress(due);
        oneReceiverIsEnough(due);
        looseFramesDoNotFail(due);
        lostAtTheTerminalAlone(due);
        lostAtTheExchangeAlone(due);
        due.end();
    }

    /** Socket 0 of bus 0 or, from an ALERT or a CONNECT, of bus 1 has a frame of that kind as the only one in its row. */
    private static PassiveBuses rigToSend(int kind) {
        PassiveBuses x = Due.rig(1, 1);
        x.dial(0, 0, kind == DONE ? 9 : 1);
        if (kind == SETUP) {
            return x;
        }
        x.run(1);
        if (kind == DONE || kind == ALERT) {
            return x;
        }
        x.run(2);
        if (kind == RELEASE) {
            x.hang(0, 0);
        } else {
            x.answer(1, 0);
        }
        return x;
    }

    private static void everyKindFromATerminal(Due due) {
        for (int kind : new int[] {SETUP, ALERT, CONNECT, RELEASE, DONE}) {
            int bus = kind == ALERT || kind == CONNECT ? 1 : 0;
            for (int[] way : WAYS) {
                for (int failures = 0; failures <= 3; failures++) {
                    due.in("kind " + kind + " from a terminal fails " + failures + " times");
                    PassiveBuses x = rigToSend(kind);
                    due.is("waiting before", x.waiting(bus, true), 1);
                    for (int i = 0; i < failures; i++) {
                        due.is("address", x.address(bus, 0) & 127, 64);
                        x.spoil(bus, true, way[i]);
                        x.run(1);
                    }
                    if (failures < 3) {
                        x.run(1);
                        due.is("address", x.address(bus, 0) & ~MILD, 64);
                    } else {
                        due.is("address", x.address(bus, 0), DRAW + MILD);
                        due.is("state", x.state(bus, 0), 0);
                        due.is("channel", x.channel(bus, 0), -1);
                        due.is("waiting", x.waiting(bus, true), 1);
                        due.is("given", x.given(bus), 1);
                    }
                }
            }
        }
    }

    /** The next tick puts and sends a frame of that kind to socket 0 of bus 0 (PROCEED to RELEASE) or bus 1 (GRANT). */
    private static PassiveBuses rigToBeSent(int kind) {
        PassiveBuses x = Due.rig(1, kind == PROCEED ? 0 : 1);
        x.dial(0, 0, kind == RELEASE ? 9 : 1);
        if (kind == PROCEED || kind == RELEASE) {
            return x;
        }
        x.run(1);
        if (kind == DONE) {
            x.hang(0, 0);
            return x;
        }
        // What goes up on bus 1 comes down on bus 0 a tick later.
        x.run(1);
        if (kind == ALERT) {
            return x;
        }
        x.run(1);
        x.answer(1, 0);
        if (kind == CONNECT) {
            x.run(1);
        }
        return x;
    }

    private static void everyKindFromTheExchange(Due due) {
        for (int kind : new int[] {PROCEED, ALERT, CONNECT, GRANT, RELEASE, DONE}) {
            int bus = kind == GRANT ? 1 : 0;
            for (int[] way : WAYS) {
                for (int failures = 0; failures <= 3; failures++) {
                    due.in("kind " + kind + " from the exchange fails " + failures + " times");
                    PassiveBuses x = rigToBeSent(kind);
                    for (int i = 0; i < failures; i++) {
                        due.is("given", x.given(bus), 1);
                        x.spoil(bus, false, way[i]);
                        x.run(1);
                    }
                    if (failures < 3) {
                        due.is("waiting", x.waiting(bus, false), failures == 0 && kind != ALERT && kind != CONNECT ? 0 : 1);
                        x.run(1);
                        due.is("given", x.given(bus), 1);
                        due.is("waiting", x.waiting(bus, false), 0);
                    } else {
                        due.is("given", x.given(bus), 0);
                        due.is("waiting", x.waiting(bus, false), 0);
                        due.is("address", x.address(bus, 0) & ~MILD, 64);
                    }
                }
            }
        }
    }

    private static void doneOnceWhateverFails(Due due) {
        for (int first = 0; first < 2; first++) {
            for (int second = 0; second < 2; second++) {
                due.in("a SETUP that fails twice makes one call: " + first + ", " + second);
                PassiveBuses x = Due.rig(1, 0);
                x.dial(0, 0, 1);
                x.spoil(0, true, first);
                x.run(1);
                due.phases(x, first, 0);
                x.spoil(0, true, second);
                x.run(1);
                due.phases(x, first + second == 0 ? 0 : 1, 0);
                x.run(1);
                due.phases(x, 1, 0);
                due.states(x, 0, 2);
                due.waiting(x, 0, 0, 0);
            }
        }
    }

    private static void nextFrameBeginsAnew(Due due) {
        due.in("two failures of one frame and two of the next are not three");
        PassiveBuses x = Due.rig(1, 0);
        x.dial(0, 0, 1);
        x.hang(0, 0);
        for (int frame = 0; frame < 2; frame++) {
            for (int i = 0; i < 2; i++) {
                x.spoil(0, true, 0);
                due.ticks(x, 1);
                due.waiting(x, 0, 2 - frame, 0);
            }
            x.run(1);
            due.addresses(x, 0, 64 + MILD);
            due.waiting(x, 0, 1 - frame, 0);
        }

        due.in("the third failure of the next frame");
        x = Due.rig(1, 0);
        x.dial(0, 0, 1);
        x.hang(0, 0);
        x.spoil(0, true, 0);
        x.run(1);
        x.spoil(0, true, 0);
        x.run(2);
        due.waiting(x, 0, 1, 0);
        for (int i = 0; i < 3; i++) {
            due.addresses(x, 0, 64 + MILD);
            x.spoil(0, true, 0);
            x.run(1);
        }
        due.addresses(x, 0, DRAW + MILD);
    }

    private static void nextFrameOfTheExchangeBeginsAnew(Due due) {
        due.in("two failures of one frame of the exchange and three of the next");
        PassiveBuses x = Due.rig(1, 0);
        x.dial(0, 0, 1);
        x.hang(0, 0);
        x.spoil(0, false, 0);
        x.run(1);
        x.spoil(0, false, 0);
        x.run(1);
        due.waiting(x, 0, 0, 2);
        x.run(1);
        due.waiting(x, 0, 0, 1);
        for (int i = 0; i < 3; i++) {
            due.is("given(0)", x.given(0), 1);
            x.spoil(0, false, 0);
            x.run(1);
        }
        due.is("given(0)", x.given(0), 0);
        due.waiting(x, 0, 0, 0);
    }

    private static void othersBetween(Due due) {
        for (int third = 0; third <= 2; third += 2) {
            due.in("the failures of a frame count whatever others sent between; the third: " + third);
            PassiveBuses x = Due.rig(3, 0);
            x.dial(0, 0, 9);
            x.spoil(0, true, 0);
            due.ticks(x, 1);
            x.dial(0, 1, 9);
            x.dial(0, 2, 9);
            due.ticks(x, 2, 2);
            due.states(x, 0, 1, 0, 0);
            x.spoil(0, true, 0);
            due.ticks(x, 1);
            due.is("address(0, 0)", x.address(0, 0), 64 + MILD);
            due.ticks(x, 1, 1);
            due.waiting(x, 0, 1, 0);
            x.spoil(0, true, third);
            x.run(1);
            due.is("address(0, 0)", x.address(0, 0), (third == 0 ? DRAW : 64) + MILD);
            due.causes(x, 0, third == 0 ? 0 : 1);
        }
    }

    private static void togetherButEachItsOwn(Due due) {
        for (int before = 0; before <= 2; before++) {
            due.in("of two that send together one has failed " + before + " times before");
            PassiveBuses x = new PassiveBuses();
            x.plug(0, 0, 9);
            x.plug(0, 1, 9);
            x.run(2);
            x.dial(0, 0, 5);
            for (int i = 0; i < before; i++) {
                x.spoil(0, true, 0);
                due.ticks(x, 1);
            }
            x.dial(0, 1, 5);
            if (before > 0) {
                // The one that has not sent yet goes alone, as it is eager; then both are mild.
                due.is("address(0, 1)", x.address(0, 1), 64 + 9 * DRAW);
                x.spoil(0, true, 0);
                due.ticks(x, 1);
            }
            x.spoil(0, true, 0);
            due.ticks(x, 1);
            int one = before == 2 ? 10 * DRAW : 64 + 9 * DRAW;
            due.addresses(x, 0, one + MILD, 64 + 9 * DRAW + MILD);
            due.states(x, 0, before == 2 ? 0 : 1, 1);
        }
    }

    private static void notGivenOut(Due due) {
        due.in("frames from an address that is not given out fail");
        PassiveBuses x = Due.rig(1, 0);
        x.audit(0, 64);
        x.spoil(0, false, 0);
        x.run(8);
        due.is("given(0)", x.given(0), 0);
        x.dial(0, 0, 9);
        due.ticks(x, 1, 1);
        due.addresses(x, 0, 64 + MILD);
        due.waiting(x, 0, 1, 0);
        due.ticks(x, 1);
        due.addresses(x, 0, DRAW + MILD);
        due.waiting(x, 0, 1, 0);
    }

    private static void nobodyWithTheAddress(Due due) {
        due.in("frames to an address that no terminal has fail");
        PassiveBuses x = Due.rig(1, 1);
        x.dial(0, 0, 1);
        due.ticks(x, 3);
        x.unplug(0, 0);
        due.ticks(x, 1);
        due.waiting(x, 0, 0, 1);
        due.ticks(x, 1, 1);
        due.is("given(0)", x.given(0), 1);
        due.waiting(x, 0, 0, 1);
        due.phases(x, 2);
        due.ticks(x, 2);
        due.is("given(0)", x.given(0), 0);
        due.waiting(x, 0, 0, 0);
        due.phases(x, 4);
        due.causes(x, 1, 6);
    }

    private static void oneReceiverIsEnough(Due due) {
        due.in("a frame to two terminals with the address is acknowledged if one is there");
        PassiveBuses x = new PassiveBuses();
        x.plug(0, 0, 9);
        x.plug(0, 1, 9);
        x.run(2);
        x.dial(0, 0, 9);
        x.unplug(0, 0);
        x.dial(0, 1, 9);
        due.ticks(x, 2);
        due.waiting(x, 0, 1, 0);
        due.states(x, 0, -1, 0);
    }

    private static void looseFramesDoNotFail(Due due) {
        due.in("a loose frame that is spoilt is not sent again");
        PassiveBuses x = new PassiveBuses();
        x.plug(0, 0, 0);
        x.spoil(0, true, 0);
        due.ticks(x, 1);
        due.waiting(x, 0, 0, 0);
        due.is("given(0)", x.given(0), 0);

        x = new PassiveBuses();
        x.plug(0, 0, 0);
        x.spoil(0, false, 0);
        due.ticks(x, 2);
        due.waiting(x, 0, 0, 0);
        due.is("given(0)", x.given(0), 1);
        due.addresses(x, 0, MILD);

        x = Due.rig(1, 1);
        x.audit(0, 64);
        x.spoil(0, false, 0);
        due.ticks(x, 1, 0);
        due.waiting(x, 0, 0, 0);

        x = Due.rig(1, 1);
        x.audit(0, 64);
        due.ticks(x, 1);
        x.spoil(0, true, 0);
        due.ticks(x, 1, 0, 0, 0, 0, 0);
        due.is("given(0)", x.given(0), 1);
        due.ticks(x, 0);
        due.is("given(0)", x.given(0), 0);

        x = Due.rig(1, 1);
        x.dial(0, 0, 1);
        x.spoil(1, false, 0);
        due.ticks(x, 3, 0);
        due.states(x, 1, 0);
        due.waiting(x, 1, 0, 0);
    }

    private static void lostAtTheTerminalAlone(Due due) {
        due.in("a link lost at the terminal: the exchange does not know");
        PassiveBuses x = Due.rig(1, 1);
        x.dial(0, 0, 1);
        x.run(3);
        x.hang(0, 0);
        for (int i = 0; i < 3; i++) {
            x.spoil(0, true, 0);
            x.run(1);
        }
        due.addresses(x, 0, DRAW + MILD);
        due.is("given(0)", x.given(0), 1);
        due.phases(x, 2);
        due.holders(x, 0, 1, 0);
        due.ticks(x, 2);
        due.addresses(x, 0, 65 + DRAW + MILD);
        due.is("given(0)", x.given(0), 3);
    }

    private static void lostAtTheExchangeAlone(Due due) {
        due.in("a link lost at the exchange: the terminal does not know");
        PassiveBuses x = Due.rig(1, 1);
        x.dial(0, 0, 1);
        for (int i = 0; i < 3; i++) {
            due.is("given(0)", x.given(0), 1);
            x.spoil(0, false, 1);
            x.run(1);
        }
        due.is("given(0)", x.given(0), 0);
        due.addresses(x, 0, 64);
        due.states(x, 0, 2);
        due.is("channel(0, 0)", x.channel(0, 0), 0);
        due.holders(x, 0, 0, 0);
    }
}
