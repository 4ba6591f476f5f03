/** The Terms, Steps and Backing out: each sentence by a test of its own. */
public final class EdgesOfStepTermsTest {
    private static final int NONE = RackMoves.NONE;

    public static void main(String[] args) {
        Sentences.run(EdgesOfStepTermsTest.class);
    }

    // What a step is.

    @Says(promise = 0, value = {"A step is one of these: to move a machine to a rack,",
        "where it comes into the lowest slots that are free, its size of them in a row;"})
    private static void lowestFreeSlots() {
        for (int taken = 0; taken < 1 << 10; taken++) {
            for (int size = 1; size <= 4; size++) {
                int due = lowestGap(taken, size);
                RackMoves room = withFreeSlots(taken, size);
                Check.is("size " + size + " with " + taken, room.move(10, 2), due == NONE ? 3 : 0);
                Check.is("its slot with " + taken, room.machine(10, 5), due);
                Check.is("its rack with " + taken, room.machine(10, 4), due == NONE ? NONE : 2);
            }
        }
    }

    private static int lowestGap(int taken, int size) {
        int row = (1 << size) - 1;
        for (int slot = 0; slot + size <= 10; slot++) {
            if ((taken >> slot & row) == 0) {
                return slot;
            }
        }
        return NONE;
    }

    /** Machines 0 to 9 stand in the slots of rack 2, but those whose bit is 0 have left; machine 10 has the size. */
    private static RackMoves withFreeSlots(int taken, int size) {
        RackMoves room = Rooms.standing(2, 2, 2, 2, 2, 2, 2, 2, 2, 2);
        for (int slot = 0; slot < 10; slot++) {
            if ((taken >> slot & 1) == 0) {
                room.move(slot, NONE);
            }
        }
        room.addMachine(size, 1, 0, 0);
        return room;
    }

    @Says(promise = 0, value = "where it comes into the lowest slots that are free,")
    private static void ownSlotsAreNoGap() {
        RackMoves room = Rooms.withMachines(0);
        room.addMachine(4, 1, 0, 0);
        room.addMachine(4, 1, 0, 0);
        room.addMachine(3, 1, 0, 0);
        room.move(0, 0);
        room.move(1, 0);
        Check.is("three in a row where two are free", room.move(2, 0), 3);
        room.move(0, 1);
        Check.is("the lower four are free then", room.move(2, 0), 0);
        Check.is("lowest slot", room.machine(2, 5), 0);
        Check.is("the others stay", room.machine(1, 5), 4);
    }

    @Says(promise = 0, value = "to bring it to the store;")
    private static void toTheStore() {
        RackMoves room = Rooms.standing(0, 0, 0);
        Check.is("to the store", room.move(1, NONE), 0);
        Check.is("its slot is free", room.slot(0, 1), NONE);
        Check.is("its rack", room.machine(1, 4), NONE);
        Check.is("its slot", room.machine(1, 5), NONE);
        Check.is("the store has no end", room.move(0, NONE) + room.move(2, NONE), 0);
        Check.is("those that stand", room.value(1), 0);
    }

    @Says(promise = 0, value = "to change its phase.")
    private static void changeThePhase() {
        for (int from = 0; from < 3; from++) {
            for (int to = 0; to < 3; to++) {
                RackMoves room = Rooms.withMachines(0);
                room.addMachine(2, 30, from, 0);
                room.move(0, 5);
                Check.is("from " + from + " to " + to, room.change(0, to), from == to ? 2 : 0);
                Check.is("phase", room.machine(0, 2), to);
                Check.is("rack", room.machine(0, 4), 5);
                Check.is("slot", room.machine(0, 5), 0);
                Check.is("load of the phase", room.value(6 + to), 30);
                Check.is("steps done", room.value(12), from == to ? 1 : 2);
            }
        }
    }

    // What makes a step possible.

    @Says(promise = 0, value = "A step is possible if no freeze of the machine's team has the present hour,")
    private static void noFreeze() {
        for (int hour = 0; hour < 6; hour++) {
            RackMoves room = Rooms.standing(0);
            room.addMachine(1, 1, 0, 1);
            room.addFreeze(1, 0, 99);
            room.addFreeze(0, 2, 2);
            Rooms.passTo(room, hour);
            Check.is("a move at " + hour, room.mayMove(0, 1), hour == 2 || hour == 3 ? 1 : 0);
            Check.is("a change at " + hour, room.change(0, 1), hour == 2 || hour == 3 ? 1 : 0);
            Check.is("the other team at " + hour, room.mayMove(1, 1), 1);
        }
    }

    @Says(promise = 0, value = "the machine is not there (or has not that phase) already,")
    private static void notThereAlready() {
        for (int at = NONE; at < 6; at++) {
            for (int to = NONE; to < 6; to++) {
                Check.is("from " + at + " to " + to, Rooms.standing(at).move(0, to), at == to ? 2 : 0);
            }
        }
        RackMoves room = Rooms.standing(3, 3);
        room.move(0, NONE);
        Check.is("not even to a lower slot of its rack", room.move(1, 3), 2);
        Check.is("its slot", room.machine(1, 5), 1);
    }

    @Says(promise = 0, value = "the rack has such slots,")
    private static void suchSlots() {
        for (int size = 1; size <= 4; size++) {
            for (int free = 0; free <= 4; free++) {
                RackMoves room = Rooms.standing(1, 1, 1, 1, 1, 1, 1, 1, 1, 1);
                room.addMachine(size, 1, 0, 0);
                for (int machine = 0; machine < free; machine++) {
                    room.move(machine, NONE);
                }
                Check.is("size " + size + " where the lowest " + free + " are free", room.move(10, 1),
                    size <= free ? 0 : 3);
            }
        }
        Check.is("the store needs none", Rooms.standing(1, 1, 1, 1, 1, 1, 1, 1, 1, 1).move(9, NONE), 0);
    }

    @Says(promise = 0, value = "and the room (all of it, also what the step does not touch) is right behind it.")
    private static void allOfTheRoom() {
        for (int fault = 4; fault <= 7; fault++) {
            for (int to : new int[] {NONE, 2, 3}) {
                Check.is("a move to " + to, faulty(1 << fault).move(0, to), fault);
            }
            Check.is("a change", faulty(1 << fault).change(0, 1), fault);
            Check.is("backing out", faulty(1 << fault).backOut(), fault);
            Check.is("one in the store", withOneMore(fault).change(9, 2), fault);
        }
        RackMoves room = Rooms.standing(0, 0, 4);
        room.setLimit(0, 1);
        Check.is("what mends nothing", room.move(2, 5), 4);
        Check.is("what mends it", room.move(0, 5), 0);
        Check.is("then", room.move(2, 5), 0);
    }

    private static RackMoves withOneMore(int fault) {
        RackMoves room = faulty(1 << fault);
        room.addMachine(1, 1, 0, 3);
        return room;
    }

    // The pile.

    @Says(promise = 0, value = {"A step that is done is put on the pile of steps,",
        "with what was before: rack, slot and phase."})
    private static void onThePile() {
        RackMoves room = Rooms.standing(NONE, 1, 1);
        Check.is("the moves so far", room.value(11), 2);
        room.move(0, 1);
        pileIs(room, 0, NONE, NONE, 0);
        room.change(0, 2);
        pileIs(room, 0, 1, 2, 0);
        room.move(0, 0);
        pileIs(room, 0, 1, 2, 2);
        room.move(0, NONE);
        pileIs(room, 0, 0, 0, 2);
        room.change(0, 1);
        pileIs(room, 0, NONE, NONE, 2);
        room.move(2, 5);
        pileIs(room, 2, 1, 1, 0);
        Check.is("in all", room.value(11), 8);
        Check.is("a step that is not done", room.move(2, 5), 2);
        Check.is("is not put there", room.value(11), 8);
        pileIs(room, 2, 1, 1, 0);
    }

    private static void pileIs(RackMoves room, int... latest) {
        for (int what = 0; what < 4; what++) {
            Check.is("latest step, " + what, room.pile(0, what), latest[what]);
        }
    }

    @Says(promise = 0, value = "At most 20 steps are on the pile; when one more is done, the oldest one goes.")
    private static void twentySteps() {
        for (int steps = 18; steps <= 23; steps++) {
            RackMoves room = Rooms.withMachines(12);
            for (int step = 0; step < steps; step++) {
                room.move(step % 12, step / 6);
                Check.is("on the pile", room.value(11), Math.min(20, step + 1));
                Check.is("done", room.value(12), step + 1);
            }
            int oldest = Math.max(0, steps - 20);
            Check.is("the oldest one", room.pile(Math.min(20, steps) - 1, 0), oldest);
            Check.is("none behind it", room.pile(Math.min(20, steps), 0), NONE);
            Check.is("the latest one", room.pile(0, 0), (steps - 1) % 12);
            int backedOut = 0;
            while (room.backOut() == 0) {
                backedOut++;
            }
            Check.is("backed out", backedOut, Math.min(20, steps));
            Check.is("those that stay", room.value(1), oldest);
        }
    }

    @Says(promise = 0, value = {"Backing out takes the latest step from the pile,",
        "and makes the machine's rack, slot and phase as before it."})
    private static void backingOut() {
        RackMoves room = Rooms.standing(3, 3, 3, NONE);
        room.move(0, NONE);
        room.move(2, 4);
        room.change(2, 1);
        room.move(3, 3);
        room.move(2, NONE);
        int[][] due = {{4, 0, 1}, {4, 0, 1}, {4, 0, 0}, {3, 2, 0}, {3, 2, 0}, {NONE, NONE, 0}, {NONE, NONE, 0}};
        for (int step = 0; step < due.length; step++) {
            Check.is("backOut", room.backOut(), 0);
            for (int what = 0; what < 3; what++) {
                int told = room.machine(2, what == 2 ? 2 : 4 + what);
                Check.is("behind backing out " + step + ", " + what, told, due[step][what]);
            }
            Check.is("on the pile", room.value(11), 7 - step);
        }
        Check.is("the first one still stands", room.machine(0, 5), 0);
        Check.is("the second one is back", room.machine(1, 4), NONE);
    }

    @Says(promise = 0, value = "It is possible if no freeze of the machine's team has the present hour,")
    private static void backingOutFrozen() {
        for (int hour = 0; hour < 5; hour++) {
            RackMoves room = Rooms.standing(0);
            room.addMachine(1, 1, 0, 3);
            room.move(1, 0);
            room.addFreeze(3, 1, 3);
            room.addFreeze(0, 0, 99);
            Rooms.passTo(room, hour);
            Check.is("at " + hour, room.backOut(), hour >= 1 && hour < 4 ? 1 : 0);
            Check.is("standing", room.value(1), hour >= 1 && hour < 4 ? 2 : 1);
        }
    }

    @Says(promise = 0, value = "the slots that it needs are free (or its own),")
    private static void backingOutIntoItsSlots() {
        RackMoves room = Rooms.withMachines(1);
        room.addMachine(4, 1, 0, 0);
        room.addMachine(4, 1, 0, 0);
        room.move(0, 1);
        room.move(1, 1);
        room.change(1, 1);
        Check.is("its own slots, behind a change", room.backOut(), 0);
        Check.is("its slot", room.machine(1, 5), 1);
        room.move(1, 2);
        room.move(2, 1);
        Check.is("the other one took them", room.machine(2, 5), 1);
        Check.is("first the other one", room.backOut(), 0);
        Check.is("then they are free", room.backOut(), 0);
        Check.is("its slot", room.machine(1, 5), 1);
        Check.is("its rack", room.machine(1, 4), 1);
    }

    @Says(promise = 0, value = "and the room is right behind it.")
    private static void backingOutIntoAWrongRoom() {
        RackMoves room = Rooms.standing(0, 0);
        room.move(1, 5);
        room.setLimit(0, 1);
        Check.is("over a limit behind it", room.backOut(), 4);
        Check.is("nothing is backed out", room.value(13), 0);
        room.setLimit(0, 2);
        Check.is("at the limit behind it", room.backOut(), 0);
        room.setLimit(0, 1);
        Check.is("wrong before it, right behind it", room.value(10) == 4 ? room.backOut() : -1, 0);
    }

    // The numbers of what makes a step, or backing out, impossible.

    @Says(promise = 0, value = "What makes a step, or backing out, impossible has a number, of several the first one:")
    private static void firstOfSeveral() {
        for (int faults = 0; faults < 1 << 8; faults += 2) {
            int first = faults == 0 ? 0 : Integer.numberOfTrailingZeros(faults);
            Check.is("a move with " + faults, faulty(faults).move(0, 1), first);
            Check.is("mayMove with " + faults, faulty(faults).mayMove(0, 1), first);
            int planned = Rooms.plan(faulty(faults), "m0>1;");
            Check.is("a plan with " + faults, planned, first == 0 ? 1 : -1000 - first);
            if (!has(faults, 3)) {
                Check.is("a change with " + faults, faulty(faults).change(0, has(faults, 2) ? 0 : 1), first);
            }
            if (!has(faults, 2) && !has(faults, 3)) {
                Check.is("backing out with " + faults, faulty(faults).backOut(), first);
            }
        }
    }

    private static boolean has(int faults, int fault) {
        return (faults >> fault & 1) != 0;
    }

    /**
     * A room in which these bits make it impossible to move machine 0 to rack 1. It is of team 0, size 1 and phase 0,
     * and its move was the latest step. Machines 1 to 4 are there to fill rack 1, the others stand for 4 to 6.
     */
    private static RackMoves faulty(int faults) {
        RackMoves room = Rooms.withMachines(1);
        for (int size : new int[] {4, 4, 1, 1, 1, 1, 1, 1}) {
            room.addMachine(size, 1, 0, 1);
        }
        for (int filler = 1; filler <= (has(faults, 3) && !has(faults, 2) ? 4 : 3); filler++) {
            room.move(filler, 1);
        }
        room.move(5, 5);
        room.move(6, 4);
        room.move(7, 3);
        room.move(8, 3);
        room.move(0, has(faults, 2) ? 1 : 0);
        room.addCable(5, 6, 20);
        spoil(room, faults);
        return room;
    }

    private static void spoil(RackMoves room, int faults) {
        if (has(faults, 1)) {
            room.addFreeze(0, 0, 1);
        }
        if (has(faults, 4)) {
            room.setLimit(5, 0);
        }
        if (has(faults, 5)) {
            room.setTray(4, 0);
        }
        if (has(faults, 6)) {
            room.addCable(7, 8, 1);
        }
        if (has(faults, 7)) {
            room.setLevel(0);
        }
    }

    @Says(promise = 0, value = "1 a freeze,")
    private static void number1() {
        Check.is("a move", faulty(1 << 1).move(0, 1), 1);
        Check.is("a change", faulty(1 << 1).change(0, 1), 1);
        Check.is("backing out", faulty(1 << 1).backOut(), 1);
    }

    @Says(promise = 0, value = "2 the machine is there or has that phase already (or there is no step to back out),")
    private static void number2() {
        Check.is("there", faulty(0).move(0, 0), 2);
        Check.is("in the store", Rooms.withMachines(1).move(0, NONE), 2);
        Check.is("has that phase", faulty(0).change(0, 0), 2);
        Check.is("no step", new RackMoves().backOut(), 2);
        for (int faults = 0; faults < 1 << 8; faults += 16) {
            RackMoves room = withoutSteps();
            spoil(room, faults + 2);
            Check.is("no step left, with " + faults, room.backOut(), 2);
            Check.is("and none backed out", room.backable(), 0);
        }
    }

    /** The machines of faulty() stand, but their steps have gone from the pile, and the later ones are backed out. */
    private static RackMoves withoutSteps() {
        RackMoves room = faulty(0);
        for (int step = 0; step < 20; step++) {
            room.change(1, 1 + step % 2);
        }
        for (int step = 0; step < 20; step++) {
            room.backOut();
        }
        Check.is("the pile is empty", room.value(11), 0);
        Check.is("machines stand", room.value(1), 8);
        return room;
    }

    @Says(promise = 0, value = "3 no slots,")
    private static void number3() {
        Check.is("a full rack", faulty(1 << 3).move(0, 1), 3);
        RackMoves room = Rooms.standing(0, 0, 0, 0, 0, 0, 0, 0, 0, 0);
        room.addMachine(2, 1, 0, 0);
        room.move(1, NONE);
        room.move(8, NONE);
        Check.is("two slots that are not in a row", room.move(10, 0), 3);
    }

    @Says(promise = 0, value = "4 the limit of a rack,")
    private static void number4() {
        for (int rack = 0; rack < 6; rack++) {
            RackMoves room = Rooms.standing(rack, NONE);
            room.setLimit(rack, 1);
            Check.is("of the rack itself", room.move(1, rack), 4);
            room.setLimit(rack, 0);
            Check.is("of another rack", room.move(1, (rack + 1) % 6), 4);
        }
    }

    @Says(promise = 0, value = "5 a tray,")
    private static void number5() {
        for (int tray = 0; tray < 5; tray++) {
            RackMoves room = Rooms.standing(0, NONE);
            room.addCable(0, 1, 20);
            room.setTray(tray, 0);
            for (int rack = 0; rack < 6; rack++) {
                Check.is("tray " + tray + " on the way to " + rack, room.mayMove(1, rack), rack > tray ? 5 : 0);
            }
        }
    }

    @Says(promise = 0, value = "6 a cable that is too short,")
    private static void number6() {
        RackMoves room = Rooms.standing(2, NONE);
        room.addCable(0, 1, 7);
        int[] due = {6, 0, 0, 0, 6, 6};
        for (int rack = 0; rack < 6; rack++) {
            Check.is("to " + rack, room.mayMove(1, rack), due[rack]);
        }
    }

    @Says(promise = 0, value = "7 the level.")
    private static void number7() {
        RackMoves room = Rooms.standing(0, NONE);
        room.setLevel(1);
        Check.is("more of the phase with the most", room.move(1, 0), 7);
        room.change(1, 1);
        Check.is("of another one", room.move(1, 0), 0);
        Check.is("a change to the phase with the most", room.change(1, 0), 7);
    }
}
