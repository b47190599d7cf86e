/** Mouths and ears: promises 7 and 17. */
public final class SpeechTest {
    public static void main(String[] args) {
        Due due = new Due();
        acrossTheBuses(due);
        onOneBus(due);
        allMouthsOfAChannel(due);
        notCrossedWhenEnding(due);
        leftOverTerminal(due);
        twoCalls(due);
        notCrossedBeforeItTalks(due);
        ringingBesideTalking(due);
        mouthAfterALostLink(due);
        nobodySpeaks(due);
        noEar(due);
        due.end();
    }

    private static void ears(Due due, PassiveBuses x, int bus, int... want) {
        for (int socket = 0; socket < want.length; socket++) {
            due.is("ear(" + bus + ", " + socket + ")", x.ear(bus, socket), want[socket]);
        }
    }

    private static void acrossTheBuses(Due due) {
        due.in("across the buses");
        PassiveBuses x = Due.rig(2, 1);
        ears(due, x, 0, -1, -1);
        due.yes("say", x.say(0, 0, 17));
        x.dial(0, 0, 1);
        due.ticks(x, 3);
        ears(due, x, 0, -1, -1);
        x.answer(1, 0);
        due.ticks(x, 1, 3);
        due.states(x, 0, 3);
        due.states(x, 1, 6);
        ears(due, x, 0, -1, -1);
        ears(due, x, 1, 255);
        due.ticks(x, 1);
        ears(due, x, 0, 255, -1);
        ears(due, x, 1, 17);
        due.yes("say", x.say(1, 0, 256 + 5));
        due.yes("say", x.say(0, 0, -2));
        due.yes("say", x.say(0, 1, 0));
        ears(due, x, 0, 255, -1);
        ears(due, x, 1, 17);
        due.ticks(x, 0);
        ears(due, x, 0, 5, -1);
        ears(due, x, 1, 254);
        x.hang(0, 0);
        ears(due, x, 0, 5, -1);
        due.ticks(x, 3);
        ears(due, x, 0, -1, -1);
        ears(due, x, 1, -1);
        x.unplug(0, 0);
        x.plug(0, 0, 3);
        ears(due, x, 0, -1, -1);
    }

    private static void onOneBus(Due due) {
        due.in("on one bus");
        PassiveBuses x = Due.rig(2, 0);
        x.say(0, 0, 1);
        x.say(0, 1, 2);
        x.dial(0, 0, 0);
        x.run(2);
        x.answer(0, 1);
        x.run(4);
        due.states(x, 0, 6, 6);
        ears(due, x, 0, 2, 1);

        due.in("a terminal plugged anew has its mouth at 255");
        x.unplug(0, 1);
        due.ticks(x, 0);
        ears(due, x, 0, 255, -1);
        x.hang(0, 0);
        x.plug(0, 1, 1);
        x.run(8);
        due.states(x, 0, 0, 0);
        x.dial(0, 0, 0);
        x.run(2);
        x.answer(0, 1);
        x.run(4);
        due.states(x, 0, 6, 6);
        ears(due, x, 0, 255, 1);
    }

    private static void allMouthsOfAChannel(Due due) {
        due.in("the mouths of all on a channel");
        PassiveBuses x = new PassiveBuses();
        x.plug(0, 0, 9);
        x.plug(0, 1, 9);
        x.plug(1, 0, 1);
        x.run(2);
        x.say(0, 0, 0xF3);
        x.say(0, 1, 0xAA);
        x.say(1, 0, 77);
        x.dial(0, 0, 1);
        x.dial(0, 1, 1);
        x.run(1);
        x.answer(1, 0);
        x.run(4);
        due.states(x, 0, 6, 6);
        ears(due, x, 0, 77, 77);
        ears(due, x, 1, 0xA2);
        x.hang(0, 1);
        x.spoil(0, true, 0);
        due.ticks(x, 1);
        ears(due, x, 0, 77, -1);
        ears(due, x, 1, 0xF3);
    }

    private static PassiveBuses rigTalking() {
        PassiveBuses x = Due.rig(2, 1);
        x.say(0, 0, 0x0F);
        x.say(1, 0, 0x3C);
        x.dial(0, 0, 1);
        x.run(1);
        x.answer(1, 0);
        // The second terminal of bus 0 is no part of it.
        x.run(5);
        return x;
    }

    private static void notCrossedWhenEnding(Due due) {
        due.in("not crossed when ending");
        PassiveBuses x = rigTalking();
        ears(due, x, 0, 0x3C, -1);
        ears(due, x, 1, 0x0F);
        x.audit(1, 64);
        x.spoil(1, false, 0);
        x.run(7);
        ears(due, x, 0, 0x3C, -1);
        ears(due, x, 1, 0x0F);
        due.phases(x, 3);
        due.ticks(x, 0);
        due.phases(x, 4);
        due.states(x, 0, 6, 0);
        due.states(x, 1, 6);
        ears(due, x, 0, 255, -1);
        ears(due, x, 1, 255);
        due.ticks(x, 1);
        ears(due, x, 0, -1, -1);
        ears(due, x, 1, 255);
    }

    private static void leftOverTerminal(Due due) {
        due.in("a terminal that the exchange has dropped speaks and hears on its channel");
        PassiveBuses x = rigTalking();
        x.audit(0, 64);
        x.spoil(0, false, 0);
        x.run(10);
        due.states(x, 0, 6, 0);
        due.states(x, 1, 0);
        due.phases(x, 0);
        ears(due, x, 0, 255, -1);
        x.say(0, 1, 0xF9);
        x.dial(0, 1, 1);
        x.run(1);
        due.is("channel(0, 1)", x.channel(0, 1), 0);
        x.answer(1, 0);
        x.run(4);
        due.states(x, 0, 6, 6);
        due.states(x, 1, 6);
        ears(due, x, 0, 0x3C, 0x3C);
        ears(due, x, 1, 0x09);
    }

    private static void twoCalls(Due due) {
        due.in("two calls at once");
        PassiveBuses x = Due.rig(2, 1);
        for (int socket = 0; socket < 2; socket++) {
            x.say(0, socket, 1 << socket);
            x.dial(0, socket, 1);
            x.run(1);
            x.answer(1, socket);
            x.run(4);
            x.plug(1, 1, 1);
            x.run(2);
        }
        x.say(1, 0, 4);
        x.say(1, 1, 8);
        x.run(1);
        due.states(x, 0, 6, 6);
        due.states(x, 1, 6, 6);
        ears(due, x, 0, 4, 8);
        ears(due, x, 1, 1, 2);

        due.in("a terminal plugged into the socket of one that heard something");
        x.unplug(0, 1);
        x.plug(0, 1, 5);
        ears(due, x, 0, 4, -1);
        ears(due, x, 1, 1, 2);
        x.run(1);
        ears(due, x, 0, 4, -1);
        ears(due, x, 1, 1, 255);
    }

    private static void notCrossedBeforeItTalks(Due due) {
        due.in("the channels of a call that does not talk yet are not crossed");
        PassiveBuses x = rigTalking();
        x.plug(1, 1, 1);
        x.run(2);
        for (int bus = 0; bus < 2; bus++) {
            x.audit(bus, 64);
            x.spoil(bus, false, 0);
        }
        x.run(8);
        // Both parties were dropped and still are ACTIVE, each on the channel 0 of its bus, which the next call gets.
        due.phases(x, 0);
        due.states(x, 0, 6, 0);
        due.states(x, 1, 6, 0);
        ears(due, x, 0, 255);
        ears(due, x, 1, 255);
        x.dial(0, 1, 1);
        x.run(1);
        due.phases(x, 0, 1);
        due.holders(x, 0, 2, 0);
        due.holders(x, 1, 2, 0);
        ears(due, x, 0, 255);
        ears(due, x, 1, 255);
        x.run(1);
        due.phases(x, 0, 2);
        ears(due, x, 0, 255);
        ears(due, x, 1, 255);
        x.answer(1, 1);
        x.run(1);
        due.phases(x, 0, 3);
        ears(due, x, 0, 0x3C);
        ears(due, x, 1, 0x0F);
    }

    private static void ringingBesideTalking(Due due) {
        due.in("a call that rings before one that talks");
        PassiveBuses x = Due.rig(2, 1);
        x.dial(0, 0, 1);
        x.run(4);
        x.plug(1, 1, 1);
        x.run(2);
        x.dial(0, 1, 1);
        x.run(3);
        x.answer(1, 1);
        x.run(3);
        due.phases(x, 2, 3);
        x.say(0, 1, 3);
        x.say(1, 1, 5);
        due.ticks(x, 0);
        ears(due, x, 0, -1, 5);
        ears(due, x, 1, -1, 3);
    }

    private static void mouthAfterALostLink(Due due) {
        due.in("a lost link leaves the mouth alone");
        PassiveBuses x = Due.rig(1, 1);
        x.say(0, 0, 0x21);
        x.dial(0, 0, 9);
        for (int i = 0; i < 3; i++) {
            x.spoil(0, true, 0);
            x.run(1);
        }
        x.run(2);
        x.dial(0, 0, 1);
        x.run(3);
        x.answer(1, 0);
        x.run(3);
        due.states(x, 0, 6);
        ears(due, x, 1, 0x21);
    }

    private static void nobodySpeaks(Due due) {
        due.in("255 where nobody speaks: 0, 1 and 2 mouths");
        PassiveBuses x = Due.rig(1, 0);
        x.plug(1, 0, 9);
        x.plug(1, 1, 9);
        x.run(2);
        x.say(1, 0, 0x0F);
        x.say(1, 1, 0x35);
        x.dial(0, 0, 1);
        x.run(4);
        x.answer(1, 0);
        x.answer(1, 1);
        x.run(3);
        due.states(x, 0, 6);
        due.states(x, 1, 6, 6);
        ears(due, x, 0, 0x05);
        ears(due, x, 1, 255, 255);
        x.unplug(1, 0);
        due.ticks(x, 0);
        ears(due, x, 0, 0x35);
        x.unplug(1, 1);
        due.ticks(x, 0);
        due.phases(x, 3);
        ears(due, x, 0, 255);

        due.in("255 from a caller that is not there any more, whose call goes on");
        x = rigTalking();
        x.say(0, 0, 0);
        due.ticks(x, 0);
        ears(due, x, 1, 0);
        x.unplug(0, 0);
        ears(due, x, 1, 0);
        due.ticks(x, 0);
        due.phases(x, 3);
        ears(due, x, 1, 255);
    }

    private static void noEar(Due due) {
        due.in("no ear before a tick, in any state but ACTIVE, and in an empty socket");
        PassiveBuses x = new PassiveBuses();
        ears(due, x, 0, -1, -1, -1, -1);
        x.plug(0, 0, 0);
        x.plug(1, 0, 0);
        ears(due, x, 0, -1);
        x.run(2);
        ears(due, x, 0, -1);
        x.dial(0, 0, 1);
        ears(due, x, 0, -1);
        x.run(1);
        due.states(x, 0, 2);
        due.states(x, 1, 4);
        ears(due, x, 0, -1);
        ears(due, x, 1, -1);
        x.run(2);
        due.states(x, 0, 3);
        x.answer(1, 0);
        x.spoil(1, false, 0);
        x.run(1);
        due.states(x, 1, 5);
        ears(due, x, 0, -1);
        ears(due, x, 1, -1);
        x.run(2);
        ears(due, x, 0, 255);
        ears(due, x, 1, 255);
        x.hang(1, 0);
        ears(due, x, 1, 255);
        x.spoil(1, true, 0);
        x.run(1);
        due.states(x, 1, 7);
        ears(due, x, 1, -1);
        ears(due, x, 0, 255);
        x.unplug(0, 0);
        ears(due, x, 0, -1);
        x.plug(0, 0, 0);
        ears(due, x, 0, -1);
    }
}
