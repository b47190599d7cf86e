/** The least and the greatest argument of every call, those just beyond, and what a refused call leaves alone. */
public final class LimitsTest {
    private static final int MILD = 2048;
    private static final int DRAW = 128;
    private static final int LEAST = Integer.MIN_VALUE;
    private static final int MOST = Integer.MAX_VALUE;

    public static void main(String[] args) {
        Due due = new Due();
        plugBuses(due);
        plugSockets(due);
        plugDraws(due);
        plugIntoATakenSocket(due);
        unplugTwice(due);
        sayOctets(due);
        sayBusesAndSockets(due);
        dialNumbers(due);
        dialBusesAndSockets(due);
        answerBusesAndSockets(due);
        hangBusesAndSockets(due);
        everyState(due);
        spoilWhats(due);
        spoilBuses(due);
        auditAddresses(due);
        auditBuses(due);
        auditTwice(due);
        runTicks(due);
        terminalsThatAreAskedAbout(due);
        channelsThatAreAskedAbout(due);
        busesThatAreAskedAbout(due);
        callsThatAreAskedAbout(due);
        refusedCallsChangeNothing(due);
        refusedCallsOnANewObjectChangeNothing(due);
        theLastCall(due);
        due.end();
    }

    private static void plugBuses(Due due) {
        due.in("plug: buses 0 and 1");
        PassiveBuses x = new PassiveBuses();
        due.no("plug(-1, 0, 0)", x.plug(-1, 0, 0));
        due.no("plug(2, 0, 0)", x.plug(2, 0, 0));
        due.waiting(x, 0, 0, 0);
        due.waiting(x, 1, 0, 0);
        due.yes("plug(0, 0, 0)", x.plug(0, 0, 0));
        due.waiting(x, 0, 1, 0);
        due.waiting(x, 1, 0, 0);
        due.yes("plug(1, 0, 0)", x.plug(1, 0, 0));
        due.waiting(x, 1, 1, 0);
    }

    private static void plugSockets(Due due) {
        due.in("plug: sockets 0 to 3");
        PassiveBuses x = new PassiveBuses();
        for (int bus = 0; bus < 2; bus++) {
            due.no("plug socket -1", x.plug(bus, -1, 0));
            due.no("plug socket 4", x.plug(bus, 4, 0));
            for (int socket = 0; socket < 4; socket++) {
                due.is("state", x.state(bus, socket), -1);
                due.yes("plug socket " + socket, x.plug(bus, socket, socket));
                due.is("state", x.state(bus, socket), 0);
                due.is("address", x.address(bus, socket), DRAW * socket);
            }
            due.waiting(x, bus, 4, 0);
        }
    }

    private static void plugDraws(Due due) {
        due.in("plug: draws 0 to 15");
        PassiveBuses x = new PassiveBuses();
        for (int draw : new int[] {LEAST, -1, 16, MOST}) {
            due.no("plug with draw " + draw, x.plug(0, 0, draw));
            due.is("address(0, 0)", x.address(0, 0), -1);
        }
        int[] draws = {0, 1, 14, 15};
        for (int socket = 0; socket < 4; socket++) {
            due.yes("plug with draw " + draws[socket], x.plug(0, socket, draws[socket]));
        }
        due.addresses(x, 0, 0, DRAW, 14 * DRAW, 15 * DRAW);
    }

    private static void plugIntoATakenSocket(Due due) {
        due.in("plug: a socket that is not empty");
        PassiveBuses x = Due.rig(2, 1);
        PassiveBuses y = Due.rig(2, 1);
        due.no("plug(0, 0, 7)", x.plug(0, 0, 7));
        due.no("plug(0, 1, 1)", x.plug(0, 1, 1));
        due.alike("a refused plug", x, y);
        x.unplug(0, 0);
        due.yes("plug(0, 0, 7) when it is empty again", x.plug(0, 0, 7));
        due.no("plug(0, 0, 7) when it is not", x.plug(0, 0, 7));
        due.waiting(x, 0, 1, 0);
    }

    private static void unplugTwice(Due due) {
        due.in("unplug: only where there is a terminal");
        PassiveBuses x = Due.rig(4, 4);
        for (int bus : Due.NO_BUSES) {
            due.no("unplug from no bus", x.unplug(bus, 0));
        }
        for (int socket : Due.NO_SOCKETS) {
            due.no("unplug from no socket", x.unplug(0, socket));
            due.no("unplug from no socket", x.unplug(1, socket));
        }
        for (int bus = 0; bus < 2; bus++) {
            for (int socket = 0; socket < 4; socket += 3) {
                due.is("state", x.state(bus, socket), 0);
                due.yes("unplug", x.unplug(bus, socket));
                due.is("state", x.state(bus, socket), -1);
                due.no("unplug again", x.unplug(bus, socket));
            }
            due.states(x, bus, -1, 0, 0, -1);
            due.is("given", x.given(bus), 15);
        }
    }

    /** Socket 0 of both buses are ACTIVE in call 1, nothing waits. */
    private static PassiveBuses rigTalking() {
        PassiveBuses x = Due.rig(1, 1);
        x.dial(0, 0, 1);
        x.run(4);
        x.answer(1, 0);
        x.run(3);
        return x;
    }

    private static void sayOctets(Due due) {
        due.in("say: the lowest 8 bits of any octet");
        PassiveBuses x = rigTalking();
        due.ears(x, 1, 255);
        int[][] saidAndHeard = {{0, 0}, {1, 1}, {254, 254}, {255, 255}, {256, 0}, {257, 1}, {-1, 255}, {-255, 1},
            {-256, 0}, {-257, 255}, {MOST, 255}, {LEAST, 0}};
        for (int[] pair : saidAndHeard) {
            due.yes("say(0, 0, " + pair[0] + ")", x.say(0, 0, pair[0]));
            due.is("run(1)", x.run(1), 0);
            due.ears(x, 1, pair[1]);
            due.ears(x, 0, 255);
        }
    }

    private static void sayBusesAndSockets(Due due) {
        due.in("say: only where there is a terminal");
        PassiveBuses x = rigTalking();
        for (int bus : Due.NO_BUSES) {
            due.no("say on no bus", x.say(bus, 0, 1));
        }
        for (int socket : Due.NO_SOCKETS) {
            due.no("say at no socket", x.say(0, socket, 1));
        }
        for (int socket = 1; socket < 4; socket++) {
            due.no("say at an empty socket", x.say(0, socket, 1));
        }
        x.plug(0, 3, 0);
        due.yes("say(0, 3, 1)", x.say(0, 3, 1));
        x.run(1);
        due.ears(x, 0, 255);
        due.ears(x, 1, 255);
    }

    private static void dialNumbers(Due due) {
        due.in("dial: any number; 0 and 1 are buses");
        for (int number : new int[] {LEAST, -2, -1, 2, 3, MOST}) {
            PassiveBuses x = Due.rig(1, 0);
            due.yes("dial(0, 0, " + number + ")", x.dial(0, 0, number));
            due.ticks(x, 2);
            due.states(x, 0, 0);
            due.causes(x, 0, 1);
            due.phases(x, 0);
            due.holders(x, 0, 0, 0);
        }
        for (int number = 0; number <= 1; number++) {
            PassiveBuses x = Due.rig(1, 0);
            due.yes("dial(0, 0, " + number + ")", x.dial(0, 0, number));
            due.ticks(x, number == 0 ? 2 : 3);
            due.states(x, 0, 2);
            due.causes(x, 0, 0);
            due.phases(x, 1);
            due.holders(x, 0, 1, number == 0 ? 1 : 0);
            due.holders(x, 1, number, 0);
        }
    }

    private static void dialBusesAndSockets(Due due) {
        due.in("dial: only where there is a terminal with an address");
        PassiveBuses x = Due.rig(4, 4);
        for (int bus : Due.NO_BUSES) {
            due.no("dial on no bus", x.dial(bus, 0, 1));
        }
        for (int socket : Due.NO_SOCKETS) {
            due.no("dial at no socket", x.dial(1, socket, 1));
        }
        x.unplug(1, 2);
        due.no("dial at an empty socket", x.dial(1, 2, 1));
        x.plug(1, 2, 2);
        due.no("dial without an address", x.dial(1, 2, 1));
        due.is("state", x.state(1, 2), 0);
        due.waiting(x, 1, 1, 0);
        due.yes("dial(0, 0, 1)", x.dial(0, 0, 1));
        due.yes("dial(1, 3, 1)", x.dial(1, 3, 1));
        due.states(x, 0, 1, 0, 0, 0);
        due.states(x, 1, 0, 0, 0, 1);
    }

    /** All four of bus 1 ring for socket 0 of bus 0. */
    private static PassiveBuses rigRinging() {
        PassiveBuses x = Due.rig(1, 4);
        x.dial(0, 0, 1);
        x.run(6);
        return x;
    }

    private static void answerBusesAndSockets(Due due) {
        due.in("answer: only where there is a terminal");
        PassiveBuses x = rigRinging();
        x.unplug(1, 2);
        due.no("answer at an empty socket", x.answer(1, 2));
        for (int bus : Due.NO_BUSES) {
            due.no("answer on no bus", x.answer(bus, 0));
        }
        for (int socket : Due.NO_SOCKETS) {
            due.no("answer at no socket", x.answer(1, socket));
        }
        due.states(x, 1, 4, 4, -1, 4);
        due.waiting(x, 1, 0, 0);
        due.yes("answer(1, 3)", x.answer(1, 3));
        due.yes("answer(1, 0)", x.answer(1, 0));
        due.states(x, 1, 5, 4, -1, 5);
        due.waiting(x, 1, 2, 0);
    }

    private static void hangBusesAndSockets(Due due) {
        due.in("hang: only where there is a terminal");
        PassiveBuses x = rigRinging();
        x.unplug(1, 2);
        due.no("hang at an empty socket", x.hang(1, 2));
        for (int bus : Due.NO_BUSES) {
            due.no("hang on no bus", x.hang(bus, 0));
        }
        for (int socket : Due.NO_SOCKETS) {
            due.no("hang at no socket", x.hang(1, socket));
        }
        due.states(x, 1, 4, 4, -1, 4);
        due.waiting(x, 1, 0, 0);
        due.yes("hang(1, 3)", x.hang(1, 3));
        due.yes("hang(1, 0)", x.hang(1, 0));
        due.states(x, 1, 7, 4, -1, 7);
        due.waiting(x, 1, 2, 0);
    }

    /** A terminal in a state, at socket 0 of the bus that busOf tells; nothing waits in its row but what it needs. */
    private static PassiveBuses rigInState(int state) {
        PassiveBuses x = Due.rig(1, 1);
        if (state == 0) {
            return x;
        }
        x.dial(0, 0, 1);
        if (state == 1) {
            return x;
        }
        x.run(1);
        if (state == 2 || state == 4) {
            return x;
        }
        x.run(2);
        if (state == 3) {
            return x;
        }
        x.answer(1, 0);
        if (state == 5) {
            return x;
        }
        if (state == 7) {
            x.hang(1, 0);
            return x;
        }
        x.run(2);
        return x;
    }

    private static int busOf(int state) {
        return state <= 3 ? 0 : 1;
    }

    private static void everyState(Due due) {
        for (int state = 0; state <= 7; state++) {
            due.in("dial, answer and hang in state " + state);
            int bus = busOf(state);
            PassiveBuses x = rigInState(state);
            int waits = x.waiting(bus, true);
            int reference = x.reference(bus, 0);
            due.is("state", x.state(bus, 0), state);

            due.is("dial", x.dial(bus, 0, 9) ? 1 : 0, state == 0 ? 1 : 0);
            due.is("state after dial", x.state(bus, 0), state == 0 ? 1 : state);
            due.is("reference after dial", x.reference(bus, 0), state == 0 ? 1 : reference);
            due.is("waiting after dial", x.waiting(bus, true), state == 0 ? waits + 1 : waits);

            x = rigInState(state);
            due.is("answer", x.answer(bus, 0) ? 1 : 0, state == 4 ? 1 : 0);
            due.is("state after answer", x.state(bus, 0), state == 4 ? 5 : state);
            due.is("reference after answer", x.reference(bus, 0), reference);
            due.is("waiting after answer", x.waiting(bus, true), state == 4 ? waits + 1 : waits);

            x = rigInState(state);
            boolean hangs = state != 0 && state != 7;
            int channel = x.channel(bus, 0);
            due.is("hang", x.hang(bus, 0) ? 1 : 0, hangs ? 1 : 0);
            due.is("state after hang", x.state(bus, 0), hangs ? 7 : state);
            due.is("reference after hang", x.reference(bus, 0), reference);
            due.is("channel after hang", x.channel(bus, 0), channel);
            due.is("waiting after hang", x.waiting(bus, true), hangs ? waits + 1 : waits);
        }
    }

    private static void spoilWhats(Due due) {
        due.in("spoil: 0 to 2");
        int[] whats = {LEAST, -1, 0, 1, 2, 3, MOST};
        // Of the SETUP: is it received, and does it leave the row?
        int[] received = {1, 1, 0, 1, 1, 1, 1};
        int[] waits = {0, 0, 1, 1, 0, 0, 0};
        for (int i = 0; i < whats.length; i++) {
            PassiveBuses x = Due.rig(1, 0);
            x.dial(0, 0, 1);
            boolean known = whats[i] >= 0 && whats[i] <= 2;
            due.is("spoil(0, true, " + whats[i] + ")", x.spoil(0, true, whats[i]) ? 1 : 0, known ? 1 : 0);
            x.spoil(0, false, 0);
            x.run(1);
            due.phases(x, received[i]);
            due.waiting(x, 0, waits[i], received[i]);
        }
        for (int i = 0; i < whats.length; i++) {
            PassiveBuses x = Due.rig(1, 0);
            x.dial(0, 0, 1);
            boolean known = whats[i] >= 0 && whats[i] <= 2;
            due.is("spoil(0, false, " + whats[i] + ")", x.spoil(0, false, whats[i]) ? 1 : 0, known ? 1 : 0);
            x.run(1);
            due.states(x, 0, received[i] == 1 ? 2 : 1);
            due.waiting(x, 0, 0, waits[i]);
        }
    }

    private static void spoilBuses(Due due) {
        due.in("spoil: buses 0 and 1, each way by itself");
        for (int bus = -1; bus <= 2; bus++) {
            for (int way = 0; way < 2; way++) {
                boolean up = way == 0;
                PassiveBuses x = new PassiveBuses();
                x.plug(0, 0, 0);
                x.plug(1, 0, 0);
                boolean known = bus == 0 || bus == 1;
                due.is("spoil(" + bus + ", " + up + ", 0)", x.spoil(bus, up, 0) ? 1 : 0, known ? 1 : 0);
                x.run(1);
                due.is("given(0)", x.given(0), bus == 0 && up ? 0 : 1);
                due.is("given(1)", x.given(1), bus == 1 && up ? 0 : 1);
                due.addresses(x, 0, bus == 0 ? MILD : 64 + MILD);
                due.addresses(x, 1, bus == 1 ? MILD : 64 + MILD);
            }
        }
        PassiveBuses x = new PassiveBuses();
        due.no("spoil(MIN, true, 0)", x.spoil(LEAST, true, 0));
        due.no("spoil(MAX, false, 0)", x.spoil(MOST, false, 0));
    }

    private static void auditAddresses(Due due) {
        due.in("audit: addresses 64 to 67");
        PassiveBuses x = Due.rig(4, 4);
        for (int bus = 0; bus < 2; bus++) {
            for (int address : new int[] {LEAST, -64, 0, 63, 68, MOST}) {
                due.no("audit of " + address, x.audit(bus, address));
            }
            due.waiting(x, bus, 0, 0);
            for (int address = 64; address <= 67; address++) {
                due.yes("audit of " + address, x.audit(bus, address));
                due.waiting(x, bus, 0, address - 63);
            }
        }

        due.in("audit: only of an address that is given out");
        for (int onBus = 0; onBus <= 4; onBus++) {
            x = Due.rig(onBus, 0);
            for (int address = 64; address <= 67; address++) {
                due.is("audit(0, " + address + ") with " + onBus, x.audit(0, address) ? 1 : 0,
                    address - 64 < onBus ? 1 : 0);
            }
            due.waiting(x, 0, 0, onBus);
            due.no("audit(1, 64)", x.audit(1, 64));
        }
    }

    private static void auditBuses(Due due) {
        due.in("audit: buses 0 and 1");
        PassiveBuses x = Due.rig(1, 1);
        for (int bus : Due.NO_BUSES) {
            due.no("audit on no bus", x.audit(bus, 64));
        }
        due.waiting(x, 0, 0, 0);
        due.waiting(x, 1, 0, 0);
        due.yes("audit(1, 64)", x.audit(1, 64));
        due.waiting(x, 0, 0, 0);
        due.waiting(x, 1, 0, 1);
        due.yes("audit(0, 64)", x.audit(0, 64));
    }

    private static void auditTwice(Due due) {
        due.in("audit: not while one of the address is going on, which is 8 ticks");
        PassiveBuses x = Due.rig(2, 0);
        due.yes("audit", x.audit(0, 64));
        due.no("audit again at once", x.audit(0, 64));
        due.waiting(x, 0, 0, 1);
        due.yes("audit of another", x.audit(0, 65));
        due.is("run(7)", x.run(7), 4);
        due.no("audit after 7 ticks", x.audit(0, 64));
        due.waiting(x, 0, 0, 0);
        due.is("run(1)", x.run(1), 0);
        due.yes("audit after 8 ticks", x.audit(0, 64));
        due.waiting(x, 0, 0, 1);
        due.is("run(8)", x.run(8), 2);
        due.is("given(0)", x.given(0), 3);
    }

    private static void runTicks(Due due) {
        due.in("run: 1 to 60 ticks");
        PassiveBuses x = new PassiveBuses();
        x.plug(0, 0, 0);
        for (int n : new int[] {LEAST, -60, -1, 0, 61, 62, MOST}) {
            due.is("run(" + n + ")", x.run(n), -1);
            due.is("time()", x.time(), 0);
            due.waiting(x, 0, 1, 0);
        }
        due.is("run(1)", x.run(1), 2);
        due.is("time()", x.time(), 1);
        due.is("run(2)", x.run(2), 0);
        due.is("time()", x.time(), 3);
        due.is("run(59)", x.run(59), 0);
        due.is("time()", x.time(), 62);
        due.is("run(60)", x.run(60), 0);
        due.is("time()", x.time(), 122);
    }

    /** What state, address, reference, channel, cause and ear say of one socket. */
    private static void terminal(Due due, PassiveBuses x, int bus, int socket, int... want) {
        String at = "(" + bus + ", " + socket + ")";
        due.is("state" + at, x.state(bus, socket), want[0]);
        due.is("address" + at, x.address(bus, socket), want[1]);
        due.is("reference" + at, x.reference(bus, socket), want[2]);
        due.is("channel" + at, x.channel(bus, socket), want[3]);
        due.is("cause" + at, x.cause(bus, socket), want[4]);
        due.is("ear" + at, x.ear(bus, socket), want[5]);
    }

    private static void terminalsThatAreAskedAbout(Due due) {
        due.in("state, address, reference, channel, cause, ear: buses 0 and 1, sockets 0 to 3");
        PassiveBuses x = new PassiveBuses();
        x.plug(0, 0, 3);
        x.plug(1, 3, 15);
        x.run(2);
        x.dial(0, 0, 9);
        x.run(3);
        x.dial(0, 0, 1);
        x.run(3);
        x.answer(1, 3);
        x.say(0, 0, 17);
        x.say(1, 3, 18);
        x.run(4);
        x.plug(0, 3, 7);
        x.plug(1, 0, 8);
        terminal(due, x, 0, 0, 6, 64 + 3 * DRAW, 3, 0, 1, 18);
        terminal(due, x, 0, 3, 0, 7 * DRAW, -1, -1, 0, -1);
        terminal(due, x, 1, 0, 0, 8 * DRAW, -1, -1, 0, -1);
        terminal(due, x, 1, 3, 6, 64 + 15 * DRAW, 2, 0, 0, 17);
        for (int bus = 0; bus < 2; bus++) {
            for (int socket : new int[] {LEAST, -1, 1, 2, 4, MOST}) {
                terminal(due, x, bus, socket, -1, -1, -1, -1, -1, -1);
            }
        }
        for (int bus : Due.NO_BUSES) {
            terminal(due, x, bus, 0, -1, -1, -1, -1, -1, -1);
            terminal(due, x, bus, 3, -1, -1, -1, -1, -1, -1);
        }
    }

    private static void channelsThatAreAskedAbout(Due due) {
        due.in("holder: buses 0 and 1, channels 0 and 1");
        PassiveBuses x = Due.rig(1, 1);
        x.dial(0, 0, 1);
        x.dial(1, 0, 0);
        x.run(1);
        due.holders(x, 0, 1, 2);
        due.holders(x, 1, 1, 2);
        for (int none : new int[] {LEAST, -1, 2, MOST}) {
            for (int there = 0; there < 2; there++) {
                due.is("holder(" + there + ", " + none + ")", x.holder(there, none), -1);
                due.is("holder(" + none + ", " + there + ")", x.holder(none, there), -1);
            }
            due.is("holder(" + none + ", " + none + ")", x.holder(none, none), -1);
        }
    }

    private static void busesThatAreAskedAbout(Due due) {
        due.in("waiting and given: buses 0 and 1");
        PassiveBuses x = Due.rig(1, 4);
        x.dial(0, 0, 9);
        x.audit(1, 64);
        x.audit(1, 67);
        due.waiting(x, 0, 1, 0);
        due.waiting(x, 1, 0, 2);
        due.is("given(0)", x.given(0), 1);
        due.is("given(1)", x.given(1), 15);
        for (int bus : Due.NO_BUSES) {
            due.waiting(x, bus, -1, -1);
            due.is("given(" + bus + ")", x.given(bus), -1);
        }
    }

    private static void callsThatAreAskedAbout(Due due) {
        due.in("phase: the calls there are");
        PassiveBuses x = Due.rig(2, 0);
        x.dial(0, 0, 1);
        x.run(1);
        x.hang(0, 0);
        x.run(1);
        due.phases(x, 0, 0);
        x.dial(0, 0, 1);
        x.dial(0, 1, 1);
        x.run(2);
        for (int call : new int[] {LEAST, -3, -2, -1, 0, 1, 4, 5, MOST}) {
            due.is("phase(" + call + ")", x.phase(call), 0);
        }
        due.is("phase(2)", x.phase(2), 1);
        due.is("phase(3)", x.phase(3), 1);
    }

    /** In the middle of everything: a call talking, one ringing, an audit going on, a frame each way to be spoilt. */
    private static PassiveBuses rigBusy() {
        PassiveBuses x = Due.rig(3, 2);
        x.dial(0, 0, 1);
        x.run(4);
        x.answer(1, 0);
        x.run(4);
        x.dial(0, 1, 1);
        x.run(1);
        x.audit(0, 64);
        x.plug(1, 2, 6);
        x.spoil(0, true, 1);
        x.spoil(1, false, 1);
        return x;
    }

    private static void refuseAll(Due due, PassiveBuses x, int bus, int socket) {
        due.no("unplug", x.unplug(bus, socket));
        due.no("dial", x.dial(bus, socket, 1));
        due.no("answer", x.answer(bus, socket));
        due.no("hang", x.hang(bus, socket));
        due.no("say", x.say(bus, socket, 0));
    }

    private static void refusedCallsChangeNothing(Due due) {
        due.in("refused calls change nothing");
        PassiveBuses x = rigBusy();
        PassiveBuses y = rigBusy();
        due.states(x, 0, 6, 2, 0, -1);
        due.states(x, 1, 6, 4, 0, -1);
        for (int bus : Due.NO_BUSES) {
            refuseAll(due, x, bus, 0);
            due.no("plug", x.plug(bus, 3, 0));
            due.no("spoil", x.spoil(bus, true, 0));
            due.no("audit", x.audit(bus, 64));
        }
        for (int socket : Due.NO_SOCKETS) {
            refuseAll(due, x, 0, socket);
            refuseAll(due, x, 1, socket);
            due.no("plug", x.plug(0, socket, 0));
        }
        refuseAll(due, x, 0, 3);
        due.no("plug with a wrong draw", x.plug(0, 3, 16));
        due.no("plug into a taken socket", x.plug(0, 0, 0));
        due.no("dial when ACTIVE", x.dial(0, 0, 1));
        due.no("dial without an address", x.dial(1, 2, 1));
        due.no("answer when ACTIVE", x.answer(1, 0));
        due.no("answer when PROCEEDING", x.answer(0, 1));
        due.no("hang when NULL", x.hang(0, 2));
        due.no("spoil with a wrong what", x.spoil(0, true, 3));
        due.no("spoil with a wrong what", x.spoil(1, false, -1));
        due.no("audit while one goes on", x.audit(0, 64));
        due.no("audit of a free address", x.audit(0, 67));
        due.is("run(0)", x.run(0), -1);
        due.is("run(61)", x.run(61), -1);
        due.alike("refused calls", x, y);
        due.is("run(1)", x.run(1), y.run(1));
        due.alike("a tick after them", x, y);
        due.is("run(20)", x.run(20), y.run(20));
        due.alike("20 ticks later", x, y);
    }

    private static void refusedCallsOnANewObjectChangeNothing(Due due) {
        due.in("refused calls on a new object change nothing");
        PassiveBuses x = new PassiveBuses();
        for (int bus = 0; bus < 2; bus++) {
            for (int socket = 0; socket < 4; socket++) {
                refuseAll(due, x, bus, socket);
            }
            for (int address = 64; address <= 67; address++) {
                due.no("audit", x.audit(bus, address));
            }
        }
        due.alike("refused calls", x, new PassiveBuses());
        x.plug(0, 0, 0);
        due.is("run(2)", x.run(2), 2);
        x.dial(0, 0, 1);
        due.is("reference(0, 0)", x.reference(0, 0), 1);
    }

    private static void theLastCall(Due due) {
        due.in("an object is good for 512 calls");
        PassiveBuses x = new PassiveBuses();
        x.plug(0, 0, 0);
        x.plug(1, 0, 0);
        x.run(2);
        x.dial(0, 0, 1);
        x.run(4);
        x.answer(1, 0);
        x.run(4);
        for (int call = 8; call <= 511; call++) {
            if (call % 2 == 0) {
                x.say(0, 0, call);
            } else {
                due.is("run(60)", x.run(60), 0);
            }
        }
        due.is("ear(1, 0)", x.ear(1, 0), 510 & 255);
    }
}
