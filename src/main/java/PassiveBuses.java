/** An exchange with two passive buses, their terminals and the calls among them, as DOC.md promises. */
public final class PassiveBuses {
    private static final int BUSES = 2;
    private static final int SOCKETS = 4;
    private static final int CHANNELS = 2;
    private static final int ADDRESSES = 4;
    private static final int LEAST_ADDRESS = 64;
    private static final int GREATEST_ADDRESS = 67;
    private static final int NO_ADDRESS = 0;
    private static final int NO_CHANNEL = -1;
    private static final int NOTHING = -1;
    private static final int DRAWS = 16;
    private static final int SILENCE = 255;
    private static final int MOST_TICKS = 60;
    private static final int MOST_CALLS = 4;
    private static final int TERMINAL_ROW = 8;
    private static final int EXCHANGE_ROW = 24;
    private static final int FAILURES_TO_LOSE = 3;

    private static final int SETUP = 0;
    private static final int PROCEED = 1;
    private static final int ALERT = 2;
    private static final int CONNECT = 3;
    private static final int GRANT = 4;
    private static final int RELEASE = 5;
    private static final int DONE = 6;
    private static final int REQUEST = 7;
    private static final int REPLY = 8;
    private static final int GIVE = 9;
    private static final int TAKE = 10;
    private static final int CHECK = 11;
    private static final int OFFER = 12;

    private static final int NULL = 0;
    private static final int CALLING = 1;
    private static final int PROCEEDING = 2;
    private static final int WAITING = 3;
    private static final int RINGING = 4;
    private static final int CONNECTING = 5;
    private static final int ACTIVE = 6;
    private static final int CLEARING = 7;

    private static final int OFFERED = 1;
    private static final int ALERTING = 2;
    private static final int TALKING = 3;
    private static final int ENDING = 4;

    private static final int LEG_NONE = 0;
    private static final int LEG_LIVE = 1;
    private static final int LEG_RINGING = 2;
    private static final int LEG_WINNER = 3;
    private static final int LEG_LEAVING = 4;

    private static final int CAUSE_HUNG = 0;
    private static final int CAUSE_NUMBER = 1;
    private static final int CAUSE_CALLS = 2;
    private static final int CAUSE_CHANNEL = 3;
    private static final int CAUSE_CALLED_CHANNEL = 4;
    private static final int CAUSE_TOO_LATE = 5;
    private static final int CAUSE_LEFT = 6;
    private static final int CAUSE_REFUSED = 7;
    private static final int CAUSE_NOBODY = 8;
    private static final int CAUSE_NO_ANSWER = 9;

    private static final int REQUEST_CLOCK = 8;
    private static final int AUDIT_CLOCK = 8;
    private static final int OFFER_CLOCK = 10;
    private static final int ALERT_CLOCK = 40;

    private static final int SPOIL_FRAME = 0;
    private static final int SPOIL_ACKNOWLEDGEMENT = 1;
    private static final int SPOIL_NEITHER = 2;

    private final Bus[] buses = new Bus[BUSES];
    /** The first callCount are the calls there are, by number; the others wait to be used again. */
    private final Call[] calls = new Call[MOST_CALLS];
    private int callCount = 0;
    private int latestNumber = 0;
    private int ticks = 0;

    public PassiveBuses() {
        for (int i = 0; i < BUSES; i++) {
            buses[i] = new Bus();
        }
        for (int i = 0; i < MOST_CALLS; i++) {
            calls[i] = new Call();
        }
    }

    public boolean plug(int bus, int socket, int draw) {
        if (!isSocket(bus, socket) || draw < 0 || draw >= DRAWS) {
            return false;
        }
        Terminal terminal = buses[bus].terminals[socket];
        if (terminal.plugged) {
            return false;
        }
        terminal.plugIn(draw);
        return true;
    }

    public boolean unplug(int bus, int socket) {
        Terminal terminal = terminalAt(bus, socket);
        if (terminal == null) {
            return false;
        }
        terminal.pullOut();
        return true;
    }

    public boolean dial(int bus, int socket, int number) {
        Terminal terminal = terminalAt(bus, socket);
        if (terminal == null || terminal.address == NO_ADDRESS || terminal.state != NULL) {
            return false;
        }
        terminal.startCall(number);
        return true;
    }

    public boolean answer(int bus, int socket) {
        Terminal terminal = terminalAt(bus, socket);
        if (terminal == null || terminal.state != RINGING) {
            return false;
        }
        terminal.state = CONNECTING;
        terminal.row.put(CONNECT, terminal.address, terminal.reference, 0);
        return true;
    }

    public boolean hang(int bus, int socket) {
        Terminal terminal = terminalAt(bus, socket);
        if (terminal == null || terminal.state == NULL || terminal.state == CLEARING) {
            return false;
        }
        terminal.state = CLEARING;
        terminal.row.put(RELEASE, terminal.address, terminal.reference, CAUSE_HUNG);
        return true;
    }

    public boolean say(int bus, int socket, int octet) {
        Terminal terminal = terminalAt(bus, socket);
        if (terminal == null) {
            return false;
        }
        terminal.mouth = octet & 255;
        return true;
    }

    public boolean spoil(int bus, boolean up, int what) {
        if (!isBus(bus) || what < SPOIL_FRAME || what > SPOIL_NEITHER) {
            return false;
        }
        if (up) {
            buses[bus].spoilUp = what;
        } else {
            buses[bus].spoilDown = what;
        }
        return true;
    }

    public boolean audit(int bus, int address) {
        Line line = isBus(bus) ? buses[bus].lineOf(address) : null;
        if (line == null || !line.given || line.audited) {
            return false;
        }
        line.audited = true;
        line.auditClock = AUDIT_CLOCK;
        line.replies = 0;
        buses[bus].row.put(CHECK, address, 0, 0);
        return true;
    }

    public int run(int n) {
        if (n < 1 || n > MOST_TICKS) {
            return NOTHING;
        }
        int sent = 0;
        for (int i = 0; i < n; i++) {
            for (int bus = 0; bus < BUSES; bus++) {
                sent += stepUp(bus);
                sent += stepDown(bus);
            }
            runClocks();
            carrySpeech();
            ticks++;
        }
        return sent;
    }

    public int time() {
        return ticks;
    }

    public int state(int bus, int socket) {
        Terminal terminal = terminalAt(bus, socket);
        return terminal == null ? NOTHING : terminal.state;
    }

    public int address(int bus, int socket) {
        Terminal terminal = terminalAt(bus, socket);
        if (terminal == null) {
            return NOTHING;
        }
        return terminal.address + 128 * terminal.draw + (terminal.mild ? 2048 : 0);
    }

    public int reference(int bus, int socket) {
        Terminal terminal = terminalAt(bus, socket);
        return terminal == null || terminal.state == NULL ? NOTHING : terminal.reference;
    }

    public int channel(int bus, int socket) {
        Terminal terminal = terminalAt(bus, socket);
        return terminal == null ? NO_CHANNEL : terminal.channel;
    }

    public int cause(int bus, int socket) {
        Terminal terminal = terminalAt(bus, socket);
        return terminal == null ? NOTHING : terminal.cause;
    }

    public int ear(int bus, int socket) {
        Terminal terminal = terminalAt(bus, socket);
        return terminal == null ? NOTHING : terminal.ear;
    }

    public int waiting(int bus, boolean up) {
        if (!isBus(bus)) {
            return NOTHING;
        }
        return up ? buses[bus].countTerminalFrames() : buses[bus].row.size;
    }

    public int given(int bus) {
        if (!isBus(bus)) {
            return NOTHING;
        }
        int bits = 0;
        for (int i = 0; i < ADDRESSES; i++) {
            if (buses[bus].lines[i].given) {
                bits |= 1 << i;
            }
        }
        return bits;
    }

    public int holder(int bus, int channel) {
        if (!isBus(bus) || channel < 0 || channel >= CHANNELS) {
            return NOTHING;
        }
        return numberHolding(bus, channel);
    }

    public int phase(int call) {
        for (int i = 0; i < callCount; i++) {
            if (calls[i].number == call) {
                return calls[i].phase;
            }
        }
        return 0;
    }

    private static boolean isBus(int bus) {
        return bus >= 0 && bus < BUSES;
    }

    private static boolean isSocket(int bus, int socket) {
        return isBus(bus) && socket >= 0 && socket < SOCKETS;
    }

    private Terminal terminalAt(int bus, int socket) {
        if (!isSocket(bus, socket)) {
            return null;
        }
        Terminal terminal = buses[bus].terminals[socket];
        return terminal.plugged ? terminal : null;
    }

    private int stepUp(int busNumber) {
        Bus bus = buses[busNumber];
        Terminal winner = bus.contend();
        if (winner == null) {
            return 0;
        }
        Frame frame = winner.row.first();
        int spoiling = bus.spoilUp;
        bus.spoilUp = SPOIL_NEITHER;
        boolean received = spoiling != SPOIL_FRAME && bus.exchangeListens(frame);
        if (received) {
            receiveUp(busNumber, frame, winner.sendBit);
        }
        bus.settleSenders(received && spoiling != SPOIL_ACKNOWLEDGEMENT);
        return 1;
    }

    private int stepDown(int busNumber) {
        Bus bus = buses[busNumber];
        if (bus.row.size == 0) {
            return 0;
        }
        Frame frame = bus.row.first();
        int spoiling = bus.spoilDown;
        bus.spoilDown = SPOIL_NEITHER;
        if (!frame.isNumbered()) {
            if (spoiling != SPOIL_FRAME) {
                bus.sendToAll(frame);
            }
            bus.row.removeFirst();
            return 1;
        }
        Line line = bus.lineOf(frame.address);
        boolean received = line != null && spoiling != SPOIL_FRAME && bus.sendToAddress(frame, line.sendBit);
        if (received && spoiling != SPOIL_ACKNOWLEDGEMENT) {
            line.sendBit = 1 - line.sendBit;
            bus.row.removeFirst();
        } else if (frame.failsForGood()) {
            dropAddress(busNumber, frame.address);
        }
        return 1;
    }

    private void receiveUp(int bus, Frame frame, int bit) {
        if (frame.kind == REQUEST) {
            buses[bus].giveAddress(frame.value);
            return;
        }
        Line line = buses[bus].lineOf(frame.address);
        if (line == null) {
            return;
        }
        if (frame.kind == REPLY) {
            line.replies++;
            return;
        }
        if (line.receiveBit != bit) {
            return;
        }
        line.receiveBit = 1 - bit;
        switch (frame.kind) {
            case SETUP:
                onSetup(bus, frame);
                break;
            case ALERT:
                onAlert(bus, frame);
                break;
            case CONNECT:
                onConnect(bus, frame);
                break;
            case RELEASE:
                buses[bus].row.put(DONE, frame.address, frame.reference, 0);
                leaveLeg(bus, frame);
                break;
            case DONE:
                leaveLeg(bus, frame);
                break;
            default:
                break;
        }
    }

    private void onSetup(int bus, Frame frame) {
        int called = frame.value;
        int channel = freeChannel(bus, NO_CHANNEL);
        int calledChannel = isBus(called) ? freeChannel(called, called == bus ? channel : NO_CHANNEL) : NO_CHANNEL;
        if (!isBus(called)) {
            refuse(bus, frame, CAUSE_NUMBER);
        } else if (callCount == MOST_CALLS) {
            refuse(bus, frame, CAUSE_CALLS);
        } else if (channel == NO_CHANNEL) {
            refuse(bus, frame, CAUSE_CHANNEL);
        } else if (calledChannel == NO_CHANNEL) {
            refuse(bus, frame, CAUSE_CALLED_CHANNEL);
        } else {
            Call call = calls[callCount];
            callCount++;
            latestNumber++;
            call.begin(latestNumber, called, calledChannel);
            call.setCaller(bus, frame.address, frame.reference, channel);
            buses[bus].row.put(PROCEED, frame.address, frame.reference, channel);
            buses[called].row.put(OFFER, NO_ADDRESS, call.calledReference(), calledChannel);
        }
    }

    private void onAlert(int bus, Frame frame) {
        Call call = answerableCall(bus, frame.reference);
        if (call == null) {
            refuse(bus, frame, CAUSE_TOO_LATE);
            return;
        }
        if (call.legOf(frame.address) != LEG_NONE) {
            return;
        }
        call.setLeg(frame.address, LEG_RINGING);
        if (call.phase == OFFERED) {
            call.phase = ALERTING;
            call.clock = ALERT_CLOCK;
            buses[call.callerBus].row.put(ALERT, call.callerAddress, call.callerReference, 0);
        }
    }

    private void onConnect(int bus, Frame frame) {
        Call call = answerableCall(bus, frame.reference);
        if (call == null) {
            if (!hasLeg(bus, frame)) {
                refuse(bus, frame, CAUSE_TOO_LATE);
            }
            return;
        }
        call.setLeg(frame.address, LEG_WINNER);
        call.winner = frame.address;
        call.phase = TALKING;
        buses[bus].row.put(GRANT, frame.address, frame.reference, call.calledChannel);
        buses[call.callerBus].row.put(CONNECT, call.callerAddress, call.callerReference, 0);
        for (int address = LEAST_ADDRESS; address <= GREATEST_ADDRESS; address++) {
            if (call.legOf(address) == LEG_RINGING) {
                call.setLeg(address, LEG_LEAVING);
                buses[bus].row.put(RELEASE, address, frame.reference, CAUSE_TOO_LATE);
            }
        }
    }

    private void refuse(int bus, Frame frame, int cause) {
        buses[bus].row.put(RELEASE, frame.address, frame.reference, cause);
    }

    /** The call with that reference if an alert or a connect from that bus can still reach it, else null. */
    private Call answerableCall(int bus, int reference) {
        for (int i = 0; i < callCount; i++) {
            Call call = calls[i];
            if (call.calledReference() == reference) {
                return call.calledBus == bus && call.isUnanswered() ? call : null;
            }
        }
        return null;
    }

    private boolean hasLeg(int bus, Frame frame) {
        for (int i = 0; i < callCount; i++) {
            if (calls[i].isCaller(bus, frame) || calls[i].isCalled(bus, frame)) {
                return true;
            }
        }
        return false;
    }

    /** On RELEASE the sender's leg is gone; on DONE only if the exchange had released it. */
    private void leaveLeg(int bus, Frame frame) {
        boolean always = frame.kind == RELEASE;
        for (int i = 0; i < callCount; i++) {
            Call call = calls[i];
            if (call.isCaller(bus, frame)) {
                if (always || call.callerLeg == LEG_LEAVING) {
                    callerGone(call);
                }
                break;
            }
            if (call.isCalled(bus, frame)) {
                if (always || call.legOf(frame.address) == LEG_LEAVING) {
                    calledGone(call, frame.address);
                }
                break;
            }
        }
        forgetFinishedCalls();
    }

    private void callerGone(Call call) {
        call.callerLeg = LEG_NONE;
        endCall(call, CAUSE_LEFT);
    }

    private void calledGone(Call call, int address) {
        int was = call.legOf(address);
        call.setLeg(address, LEG_NONE);
        if (was == LEG_WINNER) {
            endCall(call, CAUSE_LEFT);
        } else if (was == LEG_RINGING && call.phase == ALERTING && !call.isRinging()) {
            endCall(call, CAUSE_REFUSED);
        }
    }

    private void endCall(Call call, int cause) {
        if (call.phase == ENDING) {
            return;
        }
        call.phase = ENDING;
        if (call.callerLeg == LEG_LIVE) {
            call.callerLeg = LEG_LEAVING;
            buses[call.callerBus].row.put(RELEASE, call.callerAddress, call.callerReference, cause);
        }
        for (int address = LEAST_ADDRESS; address <= GREATEST_ADDRESS; address++) {
            int leg = call.legOf(address);
            if (leg == LEG_RINGING || leg == LEG_WINNER) {
                call.setLeg(address, LEG_LEAVING);
                buses[call.calledBus].row.put(RELEASE, address, call.calledReference(), cause);
            }
        }
    }

    private void forgetFinishedCalls() {
        int kept = 0;
        for (int i = 0; i < callCount; i++) {
            Call call = calls[i];
            if (call.hasAnyLeg()) {
                calls[i] = calls[kept];
                calls[kept] = call;
                kept++;
            }
        }
        callCount = kept;
    }

    private void dropAddress(int bus, int address) {
        Line line = buses[bus].lineOf(address);
        if (line == null) {
            return;
        }
        line.given = false;
        line.audited = false;
        for (int i = 0; i < callCount; i++) {
            Call call = calls[i];
            if (call.callerLeg != LEG_NONE && call.callerBus == bus && call.callerAddress == address) {
                callerGone(call);
            }
            if (call.calledBus == bus && call.legOf(address) != LEG_NONE) {
                calledGone(call, address);
            }
        }
        forgetFinishedCalls();
        // Last, since a frame that waits here still takes room from those that the drop itself puts.
        buses[bus].row.removeNumbered(address);
    }

    private int freeChannel(int bus, int besides) {
        for (int channel = 0; channel < CHANNELS; channel++) {
            if (channel != besides && numberHolding(bus, channel) == 0) {
                return channel;
            }
        }
        return NO_CHANNEL;
    }

    private int numberHolding(int bus, int channel) {
        for (int i = 0; i < callCount; i++) {
            if (calls[i].holds(bus, channel)) {
                return calls[i].number;
            }
        }
        return 0;
    }

    private void runClocks() {
        for (int bus = 0; bus < BUSES; bus++) {
            for (Terminal terminal : buses[bus].terminals) {
                terminal.runClock();
            }
        }
        for (int bus = 0; bus < BUSES; bus++) {
            for (int address = LEAST_ADDRESS; address <= GREATEST_ADDRESS; address++) {
                runAuditClock(bus, address);
            }
        }
        for (int i = 0; i < callCount; i++) {
            runCallClock(calls[i]);
        }
    }

    private void runAuditClock(int bus, int address) {
        Line line = buses[bus].lineOf(address);
        if (line == null || !line.audited) {
            return;
        }
        line.auditClock--;
        if (line.auditClock > 0) {
            return;
        }
        line.audited = false;
        if (line.replies > 1) {
            buses[bus].row.put(TAKE, address, 0, 0);
        }
        if (line.replies != 1) {
            dropAddress(bus, address);
        }
    }

    private void runCallClock(Call call) {
        if (!call.isUnanswered()) {
            return;
        }
        call.clock--;
        if (call.clock > 0) {
            return;
        }
        if (call.phase == ALERTING) {
            endCall(call, CAUSE_NO_ANSWER);
        } else if (call.offeredTwice) {
            endCall(call, CAUSE_NOBODY);
        } else {
            call.offeredTwice = true;
            call.clock = OFFER_CLOCK;
            buses[call.calledBus].row.put(OFFER, NO_ADDRESS, call.calledReference(), call.calledChannel);
        }
    }

    private void carrySpeech() {
        for (int bus = 0; bus < BUSES; bus++) {
            for (Terminal terminal : buses[bus].terminals) {
                terminal.ear = terminal.state == ACTIVE ? goesDown(bus, terminal.channel) : NOTHING;
            }
        }
    }

    private int goesDown(int bus, int channel) {
        for (int i = 0; i < callCount; i++) {
            Call call = calls[i];
            if (call.phase != TALKING || call.callerLeg != LEG_LIVE) {
                continue;
            }
            if (call.callerBus == bus && call.callerChannel == channel) {
                return buses[call.calledBus].comesUp(call.calledChannel);
            }
            if (call.calledBus == bus && call.calledChannel == channel) {
                return buses[call.callerBus].comesUp(call.callerChannel);
            }
        }
        return SILENCE;
    }

    /** The value is the number, channel, cause or draw, whichever the kind bears; what it lacks is 0. */
    private static final class Frame {
        int kind;
        int address;
        int reference;
        int value;
        int failures;

        boolean isNumbered() {
            return kind <= DONE;
        }

        boolean failsForGood() {
            failures++;
            return failures >= FAILURES_TO_LOSE;
        }

        int compareNumbered(int bit, Frame other, int otherBit) {
            if (address != other.address) {
                return Integer.compare(address, other.address);
            }
            if (bit != otherBit) {
                return Integer.compare(bit, otherBit);
            }
            if (kind != other.kind) {
                return Integer.compare(kind, other.kind);
            }
            if (reference != other.reference) {
                return Integer.compare(reference, other.reference);
            }
            return Integer.compare(value, other.value);
        }

        int compareLoose(Frame other) {
            if (kind != other.kind) {
                return Integer.compare(kind, other.kind);
            }
            if (address != other.address) {
                return Integer.compare(address, other.address);
            }
            return Integer.compare(value, other.value);
        }
    }

    /** Frames in the order in which they are sent; those beyond the size wait to be used again. */
    private static final class Row {
        final Frame[] frames;
        int size = 0;

        Row(int limit) {
            frames = new Frame[limit];
            for (int i = 0; i < limit; i++) {
                frames[i] = new Frame();
            }
        }

        void put(int kind, int address, int reference, int value) {
            if (size == frames.length) {
                return;
            }
            Frame frame = frames[size];
            size++;
            frame.kind = kind;
            frame.address = address;
            frame.reference = reference;
            frame.value = value;
            frame.failures = 0;
        }

        /** To be used only when the size is not 0. */
        Frame first() {
            return frames[0];
        }

        void removeFirst() {
            if (size == 0) {
                return;
            }
            Frame gone = frames[0];
            for (int i = 1; i < size; i++) {
                frames[i - 1] = frames[i];
            }
            size--;
            frames[size] = gone;
        }

        void removeNumbered(int address) {
            int kept = 0;
            for (int i = 0; i < size; i++) {
                Frame frame = frames[i];
                if (!frame.isNumbered() || frame.address != address) {
                    frames[i] = frames[kept];
                    frames[kept] = frame;
                    kept++;
                }
            }
            size = kept;
        }

        void removeAll() {
            size = 0;
        }
    }

    /** A socket's terminal, made once; while not plugged in, it has no address, no state and no frames. */
    private static final class Terminal {
        final Row row = new Row(TERMINAL_ROW);
        boolean plugged = false;
        boolean mild = false;
        boolean sending = false;
        int address = NO_ADDRESS;
        int draw = 0;
        int clock = 0;
        int state = NULL;
        int reference = 0;
        int channel = NO_CHANNEL;
        int cause = 0;
        int mouth = SILENCE;
        int ear = NOTHING;
        int dials = 0;
        int sendBit = 0;
        int receiveBit = 0;

        void plugIn(int firstDraw) {
            plugged = true;
            mild = false;
            cause = 0;
            mouth = SILENCE;
            ear = NOTHING;
            dials = 0;
            startOver(firstDraw);
        }

        void pullOut() {
            plugged = false;
            row.removeAll();
            address = NO_ADDRESS;
            becomeNull();
        }

        void startOver(int newDraw) {
            row.removeAll();
            address = NO_ADDRESS;
            becomeNull();
            draw = newDraw;
            row.put(REQUEST, NO_ADDRESS, 0, draw);
            clock = REQUEST_CLOCK;
        }

        void startOverWithNextDraw() {
            startOver((draw + 1) % DRAWS);
        }

        void becomeNull() {
            state = NULL;
            channel = NO_CHANNEL;
        }

        void startCall(int number) {
            state = CALLING;
            reference = 2 * dials + 1;
            dials++;
            row.put(SETUP, address, reference, number);
        }

        void runClock() {
            if (!plugged || address != NO_ADDRESS) {
                return;
            }
            clock--;
            if (clock <= 0) {
                // Nothing but a REQUEST can wait here without an address, so emptying the row takes out no more.
                startOverWithNextDraw();
            }
        }

        boolean contends(boolean asMild) {
            return plugged && row.size > 0 && mild == asMild;
        }

        int compareFirst(Terminal other) {
            Frame mine = row.first();
            Frame its = other.row.first();
            if (mine.isNumbered() != its.isNumbered()) {
                return mine.isNumbered() ? -1 : 1;
            }
            return mine.isNumbered() ? mine.compareNumbered(sendBit, its, other.sendBit) : mine.compareLoose(its);
        }

        void settle(boolean acknowledged) {
            if (!row.first().isNumbered()) {
                row.removeFirst();
            } else if (acknowledged) {
                row.removeFirst();
                sendBit = 1 - sendBit;
            } else if (row.first().failsForGood()) {
                startOverWithNextDraw();
            }
        }

        void hear(Frame frame) {
            switch (frame.kind) {
                case GIVE:
                    if (address == NO_ADDRESS && draw == frame.value) {
                        address = frame.address;
                        sendBit = 0;
                        receiveBit = 0;
                    }
                    break;
                case TAKE:
                    if (address == frame.address) {
                        startOverWithNextDraw();
                    }
                    break;
                case CHECK:
                    if (address == frame.address) {
                        row.put(REPLY, address, 0, draw);
                    }
                    break;
                case OFFER:
                    if (address != NO_ADDRESS && state == NULL) {
                        state = RINGING;
                        reference = frame.reference;
                        row.put(ALERT, address, reference, 0);
                    }
                    break;
                default:
                    break;
            }
        }

        void receive(Frame frame, int bit) {
            if (receiveBit != bit) {
                return;
            }
            receiveBit = 1 - bit;
            boolean own = state != NULL && reference == frame.reference;
            if (frame.kind == RELEASE) {
                row.put(DONE, address, frame.reference, 0);
                if (own) {
                    becomeNull();
                    cause = frame.value;
                }
            } else if (own) {
                follow(frame);
            }
        }

        void follow(Frame frame) {
            if (frame.kind == PROCEED && state == CALLING) {
                state = PROCEEDING;
                channel = frame.value;
            } else if (frame.kind == ALERT && state == PROCEEDING) {
                state = WAITING;
            } else if (frame.kind == CONNECT && (state == PROCEEDING || state == WAITING)) {
                state = ACTIVE;
            } else if (frame.kind == GRANT && state == CONNECTING) {
                state = ACTIVE;
                channel = frame.value;
            } else if (frame.kind == DONE && state == CLEARING) {
                becomeNull();
            }
        }
    }

    /** What the exchange knows of one address of a bus. */
    private static final class Line {
        boolean given = false;
        int sendBit = 0;
        int receiveBit = 0;
        boolean audited = false;
        int auditClock = 0;
        int replies = 0;
    }

    private static final class Bus {
        final Terminal[] terminals = new Terminal[SOCKETS];
        final Line[] lines = new Line[ADDRESSES];
        final Row row = new Row(EXCHANGE_ROW);
        int spoilUp = SPOIL_NEITHER;
        int spoilDown = SPOIL_NEITHER;

        Bus() {
            for (int i = 0; i < SOCKETS; i++) {
                terminals[i] = new Terminal();
            }
            for (int i = 0; i < ADDRESSES; i++) {
                lines[i] = new Line();
            }
        }

        /** What the exchange knows of an address, or null when there is no such address. */
        Line lineOf(int address) {
            int index = address - LEAST_ADDRESS;
            return index >= 0 && index < ADDRESSES ? lines[index] : null;
        }

        int countTerminalFrames() {
            int count = 0;
            for (Terminal terminal : terminals) {
                count += terminal.row.size;
            }
            return count;
        }

        boolean hasEagerContender() {
            for (Terminal terminal : terminals) {
                if (terminal.contends(false)) {
                    return true;
                }
            }
            return false;
        }

        /** Marks the terminals that send, and answers one of them, or null when no one contends. */
        Terminal contend() {
            boolean asMild = !hasEagerContender();
            Terminal winner = null;
            for (Terminal terminal : terminals) {
                if (terminal.contends(asMild) && (winner == null || terminal.compareFirst(winner) < 0)) {
                    winner = terminal;
                }
            }
            for (Terminal terminal : terminals) {
                terminal.sending = winner != null && terminal.contends(asMild) && terminal.compareFirst(winner) == 0;
            }
            for (Terminal terminal : terminals) {
                terminal.mild = terminal.sending || (terminal.mild && !asMild);
            }
            return winner;
        }

        void settleSenders(boolean acknowledged) {
            for (Terminal terminal : terminals) {
                if (terminal.sending) {
                    terminal.settle(acknowledged);
                }
            }
        }

        boolean exchangeListens(Frame frame) {
            if (!frame.isNumbered()) {
                return true;
            }
            Line line = lineOf(frame.address);
            return line != null && line.given;
        }

        void sendToAll(Frame frame) {
            for (Terminal terminal : terminals) {
                if (terminal.plugged) {
                    terminal.hear(frame);
                }
            }
        }

        /** Answers whether any terminal received it. */
        boolean sendToAddress(Frame frame, int bit) {
            boolean received = false;
            for (Terminal terminal : terminals) {
                if (terminal.address == frame.address) {
                    terminal.receive(frame, bit);
                    received = true;
                }
            }
            return received;
        }

        void giveAddress(int draw) {
            for (int i = 0; i < ADDRESSES; i++) {
                Line line = lines[i];
                if (!line.given) {
                    line.given = true;
                    line.sendBit = 0;
                    line.receiveBit = 0;
                    row.put(GIVE, LEAST_ADDRESS + i, 0, draw);
                    return;
                }
            }
        }

        int comesUp(int channel) {
            int octet = SILENCE;
            for (Terminal terminal : terminals) {
                if (terminal.state == ACTIVE && terminal.channel == channel) {
                    octet &= terminal.mouth;
                }
            }
            return octet;
        }
    }

    private static final class Call {
        final int[] legs = new int[ADDRESSES];
        int number = 0;
        int phase = 0;
        int clock = 0;
        boolean offeredTwice = false;
        int callerBus = 0;
        int callerAddress = NO_ADDRESS;
        int callerReference = 0;
        int callerChannel = NO_CHANNEL;
        int callerLeg = LEG_NONE;
        int calledBus = 0;
        int calledChannel = NO_CHANNEL;
        /** The address that became WINNER, whatever its leg is now. */
        int winner = NO_ADDRESS;

        void begin(int itsNumber, int itsCalledBus, int itsCalledChannel) {
            number = itsNumber;
            calledBus = itsCalledBus;
            calledChannel = itsCalledChannel;
            phase = OFFERED;
            clock = OFFER_CLOCK;
            offeredTwice = false;
            winner = NO_ADDRESS;
            for (int i = 0; i < ADDRESSES; i++) {
                legs[i] = LEG_NONE;
            }
        }

        void setCaller(int bus, int address, int reference, int channel) {
            callerBus = bus;
            callerAddress = address;
            callerReference = reference;
            callerChannel = channel;
            callerLeg = LEG_LIVE;
        }

        int calledReference() {
            return 2 * number;
        }

        boolean isUnanswered() {
            return phase == OFFERED || phase == ALERTING;
        }

        /** No leg where there is no such address. */
        int legOf(int address) {
            int index = address - LEAST_ADDRESS;
            return index >= 0 && index < ADDRESSES ? legs[index] : LEG_NONE;
        }

        void setLeg(int address, int leg) {
            int index = address - LEAST_ADDRESS;
            if (index >= 0 && index < ADDRESSES) {
                legs[index] = leg;
            }
        }

        boolean isRinging() {
            for (int leg : legs) {
                if (leg == LEG_RINGING) {
                    return true;
                }
            }
            return false;
        }

        boolean hasAnyLeg() {
            if (callerLeg != LEG_NONE) {
                return true;
            }
            for (int leg : legs) {
                if (leg != LEG_NONE) {
                    return true;
                }
            }
            return false;
        }

        boolean isCaller(int bus, Frame frame) {
            return callerLeg != LEG_NONE && callerBus == bus && callerAddress == frame.address
                && callerReference == frame.reference;
        }

        boolean isCalled(int bus, Frame frame) {
            return calledBus == bus && calledReference() == frame.reference
                && legOf(frame.address) != LEG_NONE;
        }

        boolean holds(int bus, int channel) {
            if (callerLeg != LEG_NONE && callerBus == bus && callerChannel == channel) {
                return true;
            }
            return calledBus == bus && calledChannel == channel && (isUnanswered() || legOf(winner) != LEG_NONE);
        }
    }
}
