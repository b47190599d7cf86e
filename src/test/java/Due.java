/** Compares answers with those that are due, and tells every one that is not. */
final class Due {
    static final int[] NO_BUSES = {-1, 2, Integer.MIN_VALUE, Integer.MAX_VALUE};
    static final int[] NO_SOCKETS = {-1, 4, Integer.MIN_VALUE, Integer.MAX_VALUE};

    private int wrong = 0;
    private int right = 0;
    private String run = "";

    /** Names the run of calls that the following answers belong to. */
    void in(String name) {
        run = name;
    }

    void is(String call, long got, long want) {
        if (got == want) {
            right++;
        } else {
            wrong++;
            System.out.println(run + ": " + call + " answered " + got + ", due is " + want);
        }
    }

    void yes(String call, boolean got) {
        is(call, got ? 1 : 0, 1);
    }

    void no(String call, boolean got) {
        is(call, got ? 1 : 0, 0);
    }

    /** Runs one tick after the other, each of which must send as many frames as said. */
    void ticks(PassiveBuses x, int... sent) {
        for (int want : sent) {
            int tick = x.time() + 1;
            is("run(1) as tick " + tick, x.run(1), want);
        }
    }

    void states(PassiveBuses x, int bus, int... want) {
        for (int socket = 0; socket < want.length; socket++) {
            is("state(" + bus + ", " + socket + ")", x.state(bus, socket), want[socket]);
        }
    }

    void addresses(PassiveBuses x, int bus, int... want) {
        for (int socket = 0; socket < want.length; socket++) {
            is("address(" + bus + ", " + socket + ")", x.address(bus, socket), want[socket]);
        }
    }

    void holders(PassiveBuses x, int bus, int... want) {
        for (int channel = 0; channel < want.length; channel++) {
            is("holder(" + bus + ", " + channel + ")", x.holder(bus, channel), want[channel]);
        }
    }

    void phases(PassiveBuses x, int... want) {
        for (int i = 0; i < want.length; i++) {
            is("phase(" + (i + 1) + ")", x.phase(i + 1), want[i]);
        }
    }

    void causes(PassiveBuses x, int bus, int... want) {
        for (int socket = 0; socket < want.length; socket++) {
            is("cause(" + bus + ", " + socket + ")", x.cause(bus, socket), want[socket]);
        }
    }

    void ears(PassiveBuses x, int bus, int... want) {
        for (int socket = 0; socket < want.length; socket++) {
            is("ear(" + bus + ", " + socket + ")", x.ear(bus, socket), want[socket]);
        }
    }

    /** The frames that wait on a bus: those of its terminals, those of the exchange. */
    void waiting(PassiveBuses x, int bus, int up, int down) {
        is("waiting(" + bus + ", true)", x.waiting(bus, true), up);
        is("waiting(" + bus + ", false)", x.waiting(bus, false), down);
    }

    /** One object must show what the other shows; takes 67 calls of each. */
    void alike(String after, PassiveBuses got, PassiveBuses want) {
        String gotLook = look(got);
        String wantLook = look(want);
        yes(after + " shows " + gotLook + ", due is " + wantLook, gotLook.equals(wantLook));
    }

    private static String look(PassiveBuses x) {
        StringBuilder text = new StringBuilder("time " + x.time());
        for (int bus = 0; bus < 2; bus++) {
            text.append("; bus ").append(bus).append(" given ").append(x.given(bus));
            text.append(" waiting ").append(x.waiting(bus, true)).append(' ').append(x.waiting(bus, false));
            text.append(" held ").append(x.holder(bus, 0)).append(' ').append(x.holder(bus, 1));
            for (int socket = 0; socket < 4; socket++) {
                text.append(", ").append(x.state(bus, socket)).append(' ').append(x.address(bus, socket));
                text.append(' ').append(x.reference(bus, socket)).append(' ').append(x.channel(bus, socket));
                text.append(' ').append(x.cause(bus, socket)).append(' ').append(x.ear(bus, socket));
            }
        }
        text.append("; phases");
        for (int call = 1; call <= 8; call++) {
            text.append(' ').append(x.phase(call));
        }
        return text.toString();
    }

    /** Five ticks old, all eager, nothing waiting: socket k of a bus has the draw k and the address 64 + k. */
    static PassiveBuses rig(int onBus0, int onBus1) {
        PassiveBuses x = new PassiveBuses();
        for (int socket = 0; socket < onBus0; socket++) {
            x.plug(0, socket, socket);
        }
        for (int socket = 0; socket < onBus1; socket++) {
            x.plug(1, socket, socket);
        }
        x.run(5);
        return x;
    }

    void end() {
        System.out.println(right + " answers as due, " + wrong + " not");
        if (wrong != 0) {
            System.exit(1);
        }
    }
}
