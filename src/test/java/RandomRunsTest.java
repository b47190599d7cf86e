import java.util.ArrayList;
import java.util.Arrays;
import java.util.List;
import java.util.Random;

/**
 * Random runs, always the same ones, of at most 512 calls on an object, with arguments of all sorts. Whatever they do:
 * nothing is thrown, a call that is refused or only asks changes nothing, the same calls have the same answers, and
 * what the document says of every state of the object holds.
 */
public final class RandomRunsTest {
    private static final int RUNS = 3_000;
    /** Looking at an object at the end takes some 220 calls more; an object is good for 512. */
    private static final int LONGEST = 290;
    private static final int MOST_NUMBERS = 40;
    private static final int[] ODD = {-1, 2, 4, 16, 63, 68, 61, 255, Integer.MIN_VALUE, Integer.MAX_VALUE};
    private static final String[] DOING =
        {"plug", "unplug", "dial", "answer", "hang", "say", "spoil", "audit", "run", "run", "run"};
    private static final String[] ASKING = {"time", "state", "address", "reference", "channel", "cause", "ear",
        "waiting", "given", "holder", "phase"};

    private final Due due = new Due();
    private final Random random;

    private RandomRunsTest(long seed) {
        random = new Random(seed);
    }

    public static void main(String[] args) {
        RandomRunsTest test = new RandomRunsTest(20261115);
        for (int run = 1; run <= RUNS; run++) {
            test.due.in("random run " + run);
            try {
                test.oneRun();
            } catch (RuntimeException thrown) {
                test.due.no("thrown: " + thrown, true);
            }
        }
        test.due.end();
    }

    private void oneRun() {
        PassiveBuses x = new PassiveBuses();
        List<int[]> accepted = new ArrayList<>();
        List<Long> answers = new ArrayList<>();
        int length = 1 + random.nextInt(LONGEST);
        int plugs = random.nextInt(9);
        for (int i = 0; i < length; i++) {
            int[] call = i < plugs ? new int[] {0, i % 2, i / 2, random.nextInt(4)} : randomCall();
            long answer = make(x, call);
            boolean refused = answer == (name(call[0]).equals("run") ? -1 : 0);
            if (call[0] < DOING.length && !refused) {
                accepted.add(call);
                answers.add(answer);
            }
        }
        int[] seen = lookAt(x);
        PassiveBuses again = new PassiveBuses();
        for (int i = 0; i < accepted.size(); i++) {
            due.is("call " + i + " " + name(accepted.get(i)[0]), make(again, accepted.get(i)), answers.get(i));
        }
        int[] seenAgain = lookAt(again);
        due.yes("all that can be asked: " + Arrays.toString(seenAgain) + " and " + Arrays.toString(seen),
            Arrays.equals(seen, seenAgain));
        allHolds(again);
    }

    /** The number of the call's name, and three arguments, of which it takes those that it needs. */
    private int[] randomCall() {
        int which = random.nextInt(10) == 0 ? DOING.length + random.nextInt(ASKING.length) : random.nextInt(DOING.length);
        String name = name(which);
        int last = name.equals("plug") ? random.nextInt(4)
            : name.equals("say") ? random.nextInt()
            : random.nextInt(name.equals("spoil") ? 3 : 2);
        int first = name.equals("run") ? 1 + random.nextInt(4) : name.equals("phase") ? random.nextInt(9) : random.nextInt(2);
        int second = name.equals("audit") ? 64 + random.nextInt(4) : random.nextInt(4);
        return new int[] {which, orOdd(first), orOdd(second), orOdd(last)};
    }

    private int orOdd(int usual) {
        return random.nextInt(40) == 0 ? ODD[random.nextInt(ODD.length)] : usual;
    }

    private static String name(int which) {
        return which < DOING.length ? DOING[which] : ASKING[which - DOING.length];
    }

    private static long make(PassiveBuses x, int[] call) {
        int a = call[1];
        int b = call[2];
        int c = call[3];
        switch (name(call[0])) {
            case "plug": return x.plug(a, b, c) ? 1 : 0;
            case "unplug": return c == 0 && x.unplug(a, b) ? 1 : 0;
            case "dial": return x.dial(a, b, c) ? 1 : 0;
            case "answer": return x.answer(a, b) ? 1 : 0;
            case "hang": return x.hang(a, b) ? 1 : 0;
            case "say": return x.say(a, b, c) ? 1 : 0;
            case "spoil": return x.spoil(a, b % 2 == 0, c) ? 1 : 0;
            case "audit": return x.audit(a, b) ? 1 : 0;
            case "run": return x.run(a);
            case "time": return x.time();
            case "state": return x.state(a, b);
            case "address": return x.address(a, b);
            case "reference": return x.reference(a, b);
            case "channel": return x.channel(a, b);
            case "cause": return x.cause(a, b);
            case "ear": return x.ear(a, b);
            case "waiting": return x.waiting(a, b % 2 == 0);
            case "given": return x.given(a);
            case "holder": return x.holder(a, b);
            case "phase": return x.phase(a);
            default: throw new IllegalStateException(name(call[0]));
        }
    }

    private static int[] lookAt(PassiveBuses x) {
        List<Integer> seen = new ArrayList<>();
        seen.add(x.time());
        for (int bus = 0; bus < 2; bus++) {
            for (int socket = 0; socket < 4; socket++) {
                seen.addAll(List.of(x.state(bus, socket), x.address(bus, socket), x.reference(bus, socket),
                    x.channel(bus, socket), x.cause(bus, socket), x.ear(bus, socket)));
            }
            seen.addAll(List.of(x.waiting(bus, true), x.waiting(bus, false), x.given(bus),
                x.holder(bus, 0), x.holder(bus, 1)));
        }
        for (int call = 1; call <= MOST_NUMBERS; call++) {
            seen.add(x.phase(call));
        }
        return seen.stream().mapToInt(Integer::intValue).toArray();
    }

    private void allHolds(PassiveBuses x) {
        for (int bus = 0; bus < 2; bus++) {
            for (int socket = 0; socket < 4; socket++) {
                terminalHolds(x, bus, socket);
            }
            within("waiting up", x.waiting(bus, true), 0, 4 * 8);
            within("waiting down", x.waiting(bus, false), 0, 24);
            within("given", x.given(bus), 0, 15);
            for (int channel = 0; channel < 2; channel++) {
                int holder = x.holder(bus, channel);
                due.yes("holder " + holder + " is a call", holder == 0 || x.phase(holder) > 0);
            }
        }
        int calls = 0;
        for (int call = 1; call <= MOST_NUMBERS; call++) {
            int phase = x.phase(call);
            within("phase", phase, 0, 4);
            calls += phase > 0 ? 1 : 0;
        }
        within("calls", calls, 0, 4);
    }

    private void within(String what, int got, int least, int greatest) {
        due.yes(what + " is " + got, got >= least && got <= greatest);
    }

    private void terminalHolds(PassiveBuses x, int bus, int socket) {
        int state = x.state(bus, socket);
        int reference = x.reference(bus, socket);
        int channel = x.channel(bus, socket);
        int ear = x.ear(bus, socket);
        String text = "terminal " + bus + " " + socket + " state " + state + " reference " + reference + " channel "
            + channel + " ear " + ear;
        if (state == -1) {
            due.is(text + " address", x.address(bus, socket), -1);
            due.is(text + " cause", x.cause(bus, socket), -1);
            due.yes(text, reference == -1 && channel == -1 && ear == -1);
            return;
        }
        int shown = x.address(bus, socket);
        int address = shown % 128;
        within(text + " address, draw and mildness", shown, 0, 2048 + 128 * 15 + 67);
        due.yes(text + " address " + address, address == 0 || (address >= 64 && address <= 67));
        due.yes(text + " has an address unless NULL", address != 0 || state == 0);
        due.yes(text + " has a reference unless NULL", (state == 0) == (reference == -1));
        due.yes(text + " calls with an odd reference", state < 1 || state > 3 || reference % 2 == 1);
        due.yes(text + " rings with an even reference", (state != 4 && state != 5) || reference % 2 == 0);
        due.yes(text + " has no channel yet", channel == -1 || state == 2 || state == 3 || state == 6 || state == 7);
        due.yes(text + " has a channel", channel >= 0 || (state != 2 && state != 3 && state != 6));
        within(text + " cause", x.cause(bus, socket), 0, 9);
        within(text + " ear", ear, -1, 255);
    }
}
