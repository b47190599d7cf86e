/** What begins again (draws after 15, the two bits) and what never does (references, numbers of calls). */
public final class WrapAroundTest {
    private static final int MILD = 2048;
    private static final int DRAW = 128;

    public static void main(String[] args) {
        Due due = new Due();
        drawByTheClock(due);
        drawByALostLink(due);
        drawByTake(due);
        bitsUp(due);
        bitsDown(due);
        bitsOfANewAddress(due);
        references(due);
        referencesAfterALostLink(due);
        referencesAfterPlug(due);
        numbersOfCalls(due);
        due.end();
    }

    private static void drawByTheClock(Due due) {
        due.in("the draw after 15 is 0, by the clock");
        PassiveBuses x = new PassiveBuses();
        x.plug(0, 0, 13);
        x.plug(0, 1, 14);
        x.plug(0, 2, 15);
        int[][] draws = {{13, 14, 15}, {14, 15, 0}, {15, 0, 1}, {0, 1, 2}};
        for (int[] draw : draws) {
            for (int tick = 1; tick <= 8; tick++) {
                for (int socket = 0; socket < 3; socket++) {
                    due.is("draw in tick " + tick, x.address(0, socket) & ~MILD, DRAW * draw[socket]);
                }
                x.spoil(0, true, 0);
                due.ticks(x, tick <= 3 ? 1 : 0);
                due.waiting(x, 0, tick == 8 ? 3 : Math.max(0, 3 - tick), 0);
            }
        }
        due.is("given(0)", x.given(0), 0);
        x.spoil(0, true, 2);
        due.ticks(x, 2);
        due.addresses(x, 0, 64 + DRAW + MILD, 2 * DRAW, 3 * DRAW);
    }

    private static void drawByALostLink(Due due) {
        for (int draw = 13; draw <= 15; draw++) {
            due.in("a lost link makes the draw " + draw + " one more");
            PassiveBuses x = new PassiveBuses();
            x.plug(0, 0, draw);
            x.run(2);
            x.dial(0, 0, 1);
            for (int i = 0; i < 3; i++) {
                due.is("address(0, 0)", x.address(0, 0) & ~MILD, 64 + DRAW * draw);
                x.spoil(0, true, 0);
                due.ticks(x, 1);
            }
            due.addresses(x, 0, DRAW * (draw == 15 ? 0 : draw + 1) + MILD);
            due.ticks(x, 2);
            due.addresses(x, 0, 65 + DRAW * (draw == 15 ? 0 : draw + 1) + MILD);
        }
    }

    private static void drawByTake(Due due) {
        due.in("TAKE makes the draw one more, after 15 it is 0");
        PassiveBuses x = new PassiveBuses();
        x.plug(0, 0, 15);
        x.run(2);
        x.audit(0, 64);
        x.spoil(0, false, 0);
        x.run(8);
        x.plug(0, 1, 14);
        x.run(2);
        x.audit(0, 64);
        x.run(8);
        due.addresses(x, 0, 64 + 15 * DRAW, 64 + 14 * DRAW);
        due.waiting(x, 0, 0, 1);
        due.ticks(x, 1);
        due.addresses(x, 0, 0, 15 * DRAW);
        due.ticks(x, 2, 2);
        due.addresses(x, 0, 64 + MILD, 65 + 15 * DRAW + MILD);
    }

    private static void bitsUp(Due due) {
        due.in("the bit up is 0 again after 1, and a frame sent twice is done once");
        PassiveBuses x = Due.rig(1, 0);
        // SETUP, RELEASE and DONE: three frames, so that the SETUP has the bit 0 in one round and 1 in the next.
        for (int round = 0; round < 6; round++) {
            x.dial(0, 0, 9);
            x.hang(0, 0);
            x.spoil(0, true, 1);
            due.ticks(x, 2);
            due.states(x, 0, 0);
            due.waiting(x, 0, 3, 0);
            due.ticks(x, 1);
            due.waiting(x, 0, 2, 0);
            due.ticks(x, 2, 1, 0);
            due.waiting(x, 0, 0, 0);
        }
        due.addresses(x, 0, 64);
    }

    private static void bitsDown(Due due) {
        due.in("the bit down is 0 again after 1, and a frame sent twice is done once");
        PassiveBuses x = Due.rig(1, 0);
        // One RELEASE in each round, which would put a second DONE if it were done twice.
        for (int round = 0; round < 6; round++) {
            x.dial(0, 0, 9);
            x.spoil(0, false, 1);
            due.ticks(x, 2);
            due.states(x, 0, 0);
            due.waiting(x, 0, 1, 1);
            due.ticks(x, 2);
            due.waiting(x, 0, 0, 0);
            due.ticks(x, 0);
        }
        due.is("given(0)", x.given(0), 1);
    }

    private static void bitsOfANewAddress(Due due) {
        for (int frames = 1; frames <= 2; frames++) {
            due.in("all four bits are 0 for an address given anew, after " + frames + " frames each way");
            PassiveBuses x = Due.rig(1, 0);
            x.dial(0, 0, 1);
            x.run(2);
            if (frames == 2) {
                x.hang(0, 0);
                x.run(2);
            }
            x.unplug(0, 0);
            x.audit(0, 64);
            x.run(8);
            due.is("given(0)", x.given(0), 0);
            x.plug(0, 0, 4);
            x.run(2);
            due.is("address(0, 0)", x.address(0, 0) & 127, 64);
            x.dial(0, 0, 9);
            due.ticks(x, 2);
            due.states(x, 0, 0);
            due.causes(x, 0, 1);
        }
    }

    private static void references(Due due) {
        due.in("the k-th dial has the reference 2 * k + 1");
        PassiveBuses x = Due.rig(1, 0);
        for (int k = 0; k < 40; k++) {
            due.no("answer", x.answer(0, 0));
            due.yes("dial", x.dial(0, 0, 9));
            due.is("reference(0, 0)", x.reference(0, 0), 2 * k + 1);
            due.no("dial while it is CALLING does not count", x.dial(0, 0, 9));
            x.run(2);
            due.is("reference(0, 0)", x.reference(0, 0), -1);
        }
    }

    private static void referencesAfterALostLink(Due due) {
        due.in("a lost link leaves the count of dials alone");
        PassiveBuses x = Due.rig(1, 0);
        x.dial(0, 0, 9);
        for (int i = 0; i < 3; i++) {
            x.spoil(0, true, 0);
            x.run(1);
        }
        due.no("dial without an address does not count", x.dial(0, 0, 9));
        x.run(2);
        due.yes("dial", x.dial(0, 0, 9));
        due.is("reference(0, 0)", x.reference(0, 0), 3);
    }

    private static void referencesAfterPlug(Due due) {
        due.in("a terminal plugged in begins with the reference 1");
        PassiveBuses x = Due.rig(1, 0);
        x.dial(0, 0, 9);
        x.run(3);
        x.dial(0, 0, 9);
        due.is("reference(0, 0)", x.reference(0, 0), 3);
        x.run(3);
        x.unplug(0, 0);
        x.plug(0, 0, 0);
        x.run(2);
        due.yes("dial", x.dial(0, 0, 9));
        due.is("reference(0, 0)", x.reference(0, 0), 1);
    }

    private static void numbersOfCalls(Due due) {
        due.in("numbers of calls are never used again");
        PassiveBuses x = Due.rig(1, 1);
        for (int call = 1; call <= 25; call++) {
            due.is("phase(" + call + ")", x.phase(call), 0);
            x.dial(0, 0, 1);
            x.run(1);
            due.is("phase(" + call + ")", x.phase(call), 1);
            due.is("phase(" + (call - 1) + ")", x.phase(call - 1), 0);
            due.is("phase(" + (call + 1) + ")", x.phase(call + 1), 0);
            due.is("reference(1, 0)", x.reference(1, 0), 2 * call);
            due.is("holder(0, 0)", x.holder(0, 0), call);
            due.is("holder(1, 0)", x.holder(1, 0), call);
            x.hang(0, 0);
            x.run(5);
            due.is("phase(" + call + ")", x.phase(call), 0);
            due.is("holder(0, 0)", x.holder(0, 0), 0);
        }
        due.in("a SETUP that is refused uses no number");
        x.dial(0, 0, 9);
        x.run(3);
        x.dial(0, 0, 1);
        x.run(1);
        due.is("phase(26)", x.phase(26), 1);
        due.is("phase(27)", x.phase(27), 0);
    }
}
