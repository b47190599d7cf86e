/** Promises 1 to 7 and 10 to 21 as far as they are about one terminal, or none, and about wrong inputs. */
public final class SocketsTest {
    public static void main(String[] args) {
        Due due = new Due();
        newObject(due);
        noSuchSocket(due);
        noSuchBusChannelOrCall(due);
        plug(due);
        unplug(due);
        plugAnew(due);
        dial(due);
        answerAndHang(due);
        run(due);
        due.end();
    }

    private static void newObject(Due due) {
        due.in("new object");
        PassiveBuses x = new PassiveBuses();
        due.is("time()", x.time(), 0);
        for (int bus = 0; bus < 2; bus++) {
            for (int socket = 0; socket < 4; socket++) {
                isEmpty(due, x, bus, socket);
            }
            due.is("waiting up", x.waiting(bus, true), 0);
            due.is("waiting down", x.waiting(bus, false), 0);
            due.is("given", x.given(bus), 0);
            due.holders(x, bus, 0, 0);
        }
        due.phases(x, 0, 0, 0, 0);
        due.is("run(60)", x.run(60), 0);
        due.is("time()", x.time(), 60);
    }

    private static void isEmpty(Due due, PassiveBuses x, int bus, int socket) {
        String at = "(" + bus + ", " + socket + ")";
        due.is("state" + at, x.state(bus, socket), -1);
        due.is("address" + at, x.address(bus, socket), -1);
        due.is("reference" + at, x.reference(bus, socket), -1);
        due.is("channel" + at, x.channel(bus, socket), -1);
        due.is("cause" + at, x.cause(bus, socket), -1);
        due.is("ear" + at, x.ear(bus, socket), -1);
        due.no("unplug" + at, x.unplug(bus, socket));
        due.no("dial" + at, x.dial(bus, socket, 1));
        due.no("answer" + at, x.answer(bus, socket));
        due.no("hang" + at, x.hang(bus, socket));
        due.no("say" + at, x.say(bus, socket, 1));
    }

    private static void noSuchSocket(Due due) {
        due.in("no such socket");
        PassiveBuses x = Due.rig(4, 4);
        for (int bus : Due.NO_BUSES) {
            isEmpty(due, x, bus, 0);
            due.no("plug", x.plug(bus, 0, 0));
        }
        for (int socket : Due.NO_SOCKETS) {
            isEmpty(due, x, 0, socket);
            isEmpty(due, x, 1, socket);
            due.no("plug", x.plug(0, socket, 0));
        }
        due.is("run(3)", x.run(3), 0);
    }

    private static void noSuchBusChannelOrCall(Due due) {
        due.in("no such bus, channel or call");
        PassiveBuses x = Due.rig(1, 1);
        x.dial(0, 0, 1);
        x.run(1);
        for (int bus : Due.NO_BUSES) {
            due.no("spoil", x.spoil(bus, true, 0));
            due.no("spoil", x.spoil(bus, false, 0));
            due.no("audit", x.audit(bus, 64));
            due.is("waiting up", x.waiting(bus, true), -1);
            due.is("waiting down", x.waiting(bus, false), -1);
            due.is("given", x.given(bus), -1);
            due.is("holder", x.holder(bus, 0), -1);
            due.is("holder", x.holder(0, bus), -1);
        }
        due.holders(x, 0, 1, 0);
        due.is("phase(1)", x.phase(1), 1);
        for (int call : new int[] {0, -1, 2, 3, 4, Integer.MIN_VALUE, Integer.MAX_VALUE}) {
            due.is("phase(" + call + ")", x.phase(call), 0);
        }
    }

    private static void plug(Due due) {
        due.in("plug");
        PassiveBuses x = new PassiveBuses();
        for (int draw : new int[] {-1, 16, Integer.MIN_VALUE, Integer.MAX_VALUE}) {
            due.no("plug with draw " + draw, x.plug(0, 0, draw));
        }
        isEmpty(due, x, 0, 0);
        due.is("waiting(0, true)", x.waiting(0, true), 0);
        due.yes("plug(0, 0, 0)", x.plug(0, 0, 0));
        due.yes("plug(1, 3, 15)", x.plug(1, 3, 15));
        due.is("address(0, 0)", x.address(0, 0), 0);
        due.is("address(1, 3)", x.address(1, 3), 15 * 128);
        due.is("state", x.state(1, 3), 0);
        due.is("reference", x.reference(1, 3), -1);
        due.is("channel", x.channel(1, 3), -1);
        due.is("cause", x.cause(1, 3), 0);
        due.is("ear", x.ear(1, 3), -1);
        due.is("waiting(1, true)", x.waiting(1, true), 1);
        due.is("waiting(1, false)", x.waiting(1, false), 0);
        due.no("plug into a taken socket", x.plug(1, 3, 2));
        due.is("address(1, 3)", x.address(1, 3), 15 * 128);
        due.is("waiting(1, true)", x.waiting(1, true), 1);
        due.is("given(1)", x.given(1), 0);
    }

    private static void unplug(Due due) {
        due.in("unplug");
        PassiveBuses x = Due.rig(2, 0);
        x.dial(0, 0, 1);
        due.is("waiting(0, true)", x.waiting(0, true), 1);
        due.yes("unplug", x.unplug(0, 0));
        due.is("waiting(0, true)", x.waiting(0, true), 0);
        isEmpty(due, x, 0, 0);
        due.is("given(0)", x.given(0), 3);
        due.is("run(3)", x.run(3), 0);
        due.addresses(x, 0, -1, 65 + 128);

        due.in("unplug a caller");
        x = Due.rig(1, 0);
        x.dial(0, 0, 1);
        due.is("run(2)", x.run(2), 3);
        due.yes("unplug", x.unplug(0, 0));
        due.is("run(1)", x.run(1), 0);
        due.is("given(0)", x.given(0), 1);
        due.is("phase(1)", x.phase(1), 1);
        due.holders(x, 0, 1, 0);
    }

    private static void plugAnew(Due due) {
        due.in("plug anew");
        PassiveBuses x = Due.rig(1, 0);
        x.dial(0, 0, 9);
        x.run(1);
        due.is("cause", x.cause(0, 0), 1);
        due.is("address", x.address(0, 0), 64 + 2048);
        x.unplug(0, 0);
        due.yes("plug", x.plug(0, 0, 7));
        due.is("cause", x.cause(0, 0), 0);
        due.is("address", x.address(0, 0), 7 * 128);
        due.is("run(2)", x.run(2), 2);
        due.is("address", x.address(0, 0), 65 + 7 * 128);
        due.yes("dial", x.dial(0, 0, 9));
        due.is("reference", x.reference(0, 0), 1);
    }

    private static void dial(Due due) {
        due.in("dial");
        PassiveBuses x = new PassiveBuses();
        x.plug(0, 0, 0);
        due.no("dial without an address", x.dial(0, 0, 1));
        due.is("state", x.state(0, 0), 0);
        due.is("waiting up", x.waiting(0, true), 1);
        x.run(2);
        int[] numbers = {2, -1, Integer.MAX_VALUE, Integer.MIN_VALUE};
        for (int k = 0; k < numbers.length; k++) {
            due.yes("dial", x.dial(0, 0, numbers[k]));
            due.is("state", x.state(0, 0), 1);
            due.is("reference", x.reference(0, 0), 2 * k + 1);
            due.is("waiting up", x.waiting(0, true), 1);
            due.no("dial when calling", x.dial(0, 0, 1));
            due.is("reference", x.reference(0, 0), 2 * k + 1);
            due.is("waiting up", x.waiting(0, true), 1);
            due.is("run(2)", x.run(2), 3);
            due.is("state", x.state(0, 0), 0);
            due.is("reference", x.reference(0, 0), -1);
            due.is("cause", x.cause(0, 0), 1);
            due.is("waiting up", x.waiting(0, true), 0);
            due.phases(x, 0);
        }
    }

    private static void answerAndHang(Due due) {
        due.in("answer and hang");
        PassiveBuses x = Due.rig(1, 1);
        due.no("answer when NULL", x.answer(0, 0));
        due.no("hang when NULL", x.hang(0, 0));
        due.is("waiting up", x.waiting(0, true), 0);
        x.dial(0, 0, 1);
        due.no("answer when CALLING", x.answer(0, 0));
        x.run(1);
        due.no("answer when PROCEEDING", x.answer(0, 0));
        due.is("state", x.state(0, 0), 2);
        due.is("state", x.state(1, 0), 4);
        due.is("reference", x.reference(1, 0), 2);
        due.is("channel", x.channel(1, 0), -1);
        due.is("waiting up", x.waiting(1, true), 1);
        due.yes("answer", x.answer(1, 0));
        due.is("state", x.state(1, 0), 5);
        due.is("reference", x.reference(1, 0), 2);
        due.is("waiting up", x.waiting(1, true), 2);
        due.no("answer when CONNECTING", x.answer(1, 0));
        due.is("waiting up", x.waiting(1, true), 2);
        due.yes("hang", x.hang(1, 0));
        due.is("state", x.state(1, 0), 7);
        due.is("reference", x.reference(1, 0), 2);
        due.is("waiting up", x.waiting(1, true), 3);
        due.no("hang when CLEARING", x.hang(1, 0));
        due.no("answer when CLEARING", x.answer(1, 0));
        due.no("dial when CLEARING", x.dial(1, 0, 0));
        due.is("waiting up", x.waiting(1, true), 3);
    }

    private static void run(Due due) {
        due.in("run");
        PassiveBuses x = new PassiveBuses();
        x.plug(0, 0, 0);
        for (int n : new int[] {0, -1, 61, Integer.MIN_VALUE, Integer.MAX_VALUE}) {
            due.is("run(" + n + ")", x.run(n), -1);
            due.is("time()", x.time(), 0);
            due.is("waiting up", x.waiting(0, true), 1);
        }
        due.is("run(1)", x.run(1), 2);
        due.is("time()", x.time(), 1);
        due.is("run(60)", x.run(60), 0);
        due.is("time()", x.time(), 61);
    }
}
