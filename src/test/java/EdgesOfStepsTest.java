import java.util.Random;

/** Promises 17 to 25, steps and what-if questions: each sentence by a test of its own. */
public final class EdgesOfStepsTest {
    private static final int NONE = RackMoves.NONE;

    public static void main(String[] args) {
        Sentences.run(EdgesOfStepsTest.class);
    }

    // Promise 17: move.

    @Says(promise = 17, value = "Moves a machine.")
    private static void movesAMachine() {
        RackMoves room = Rooms.busy();
        Check.is("move", room.move(2, 0), 0);
        Check.is("rack", room.machine(2, 4), 0);
        Check.is("slot", room.machine(2, 5), 4);
        Check.is("the slot it left", room.slot(1, 3), NONE);
        Check.is("the one above stays", room.slot(1, 5), 3);
        Check.is("its phase stays", room.machine(2, 2), 2);
        Check.is("load there", room.rack(0, 1), 100);
        Check.is("load here", room.rack(1, 1), 59);
        Check.is("steps done", room.value(12), 7);
        Check.is("hour", room.value(4), 2);
    }

    @Says(promise = 17, value = "Undoable, if it is done.")
    private static void moveUndoable() {
        Edges.undoable("of a move to a rack", Rooms::busy, room -> room.move(1, 2));
        Edges.undoable("of a move to the store", Rooms::busy, room -> room.move(2, NONE));
        Edges.idle("of a move that is not done", Rooms::busy, room -> room.move(2, 1));
    }

    @Says(promise = 17, value = {"`machine`: number of a machine",
        "Throws `IndexOutOfBoundsException` if there is no such machine"})
    private static void moveMachine() {
        Edges.bounds(Rooms::busy, 0, 3, Rooms.INDEX, (room, machine) -> room.move(machine, 2));
        Edges.bounds(Rooms::full, 0, 11, Rooms.INDEX, (room, machine) -> room.move(machine, NONE));
        Edges.refused("without machines", RackMoves::new, Rooms.INDEX, room -> room.move(0, 0));
    }

    @Says(promise = 17, value = {"`rack`: 0 to 5, or NONE for the store",
        "Throws `IllegalArgumentException` if rack is out of range"})
    private static void moveRack() {
        Edges.bounds(Rooms::busy, NONE, 5, Rooms.ARGUMENT, (room, rack) -> room.move(3, rack));
        for (int rack = NONE; rack < 6; rack++) {
            RackMoves room = Rooms.standing(rack == 0 ? 1 : 0);
            Check.is("to " + rack, room.move(0, rack), 0);
            Check.is("it is there", room.machine(0, 4), rack);
        }
    }

    @Says(promise = 17, value = {"Returns 0 if it is done, otherwise the number of what makes it impossible",
        "(then nothing changes)."})
    private static void moveReturns() {
        impossibleMove(1, room -> room.addFreeze(0, 2, 1), 0, 2);
        impossibleMove(2, room -> 0, 0, 0);
        impossibleMove(3, EdgesOfStepsTest::fillLastRack, 0, 5);
        impossibleMove(4, room -> room.setLimit(2, 59), 0, 2);
        impossibleMove(5, room -> room.setTray(1, 0), 0, 2);
        impossibleMove(6, room -> 0, 0, 4);
        impossibleMove(7, room -> room.setLevel(40), 0, NONE);
        Check.is("done", Rooms.busy().move(0, 2), 0);
    }

    private static int fillLastRack(RackMoves room) {
        int machine = room.addMachine(4, 1, 0, 0);
        room.addMachine(4, 1, 0, 0);
        return room.move(machine, 5) + room.move(machine + 1, 5);
    }

    private static void impossibleMove(int due, Edges.Use spoil, int machine, int rack) {
        Edges.Make make = Edges.behind(Rooms::busy, spoil);
        Check.is("move", make.room().move(machine, rack), due);
        Edges.idle("of a move that is answered " + due, make, room -> room.move(machine, rack));
        Check.is("mayMove", make.room().mayMove(machine, rack), due);
        Edges.idle("of mayMove that is answered " + due, make, room -> room.mayMove(machine, rack));
    }

    // Promise 18: change.

    @Says(promise = 18, value = "Changes the phase of a machine.")
    private static void changesThePhase() {
        RackMoves room = Rooms.busy();
        Check.is("change", room.change(1, 2), 0);
        Check.is("phase", room.machine(1, 2), 2);
        Check.is("rack", room.machine(1, 4), 1);
        Check.is("slot", room.machine(1, 5), 0);
        Check.is("load of 1", room.value(7), 0);
        Check.is("load of 2", room.value(8), 90);
        Check.is("steps done", room.value(12), 7);
        room.move(1, NONE);
        Check.is("change in the store", room.change(1, 0), 0);
        Check.is("phase", room.machine(1, 2), 0);
        Check.is("load of 0", room.value(6), 69);
    }

    @Says(promise = 18, value = "Undoable, if it is done.")
    private static void changeUndoable() {
        Edges.undoable("of a change", Rooms::busy, room -> room.change(3, 1));
        Edges.idle("of a change that is not done", Rooms::busy, room -> room.change(3, 0));
    }

    @Says(promise = 18, value = {"`machine`: number of a machine",
        "Throws `IndexOutOfBoundsException` if there is no such machine"})
    private static void changeMachine() {
        Edges.bounds(Rooms::busy, 0, 3, Rooms.INDEX, (room, machine) -> room.change(machine, 1));
        Edges.bounds(Rooms::full, 0, 11, Rooms.INDEX, (room, machine) -> room.change(machine, 2));
        Edges.refused("without machines", RackMoves::new, Rooms.INDEX, room -> room.change(0, 0));
    }

    @Says(promise = 18, value = {"`phase`: 0 to 2", "Throws `IllegalArgumentException` if phase is out of range"})
    private static void changePhase() {
        Edges.bounds(Rooms::busy, 0, 2, Rooms.ARGUMENT, (room, phase) -> room.change(3, phase));
    }

    @Says(promise = 18, value = {"Returns 0 if it is done, otherwise the number of what makes it impossible",
        "(then nothing changes)."})
    private static void changeReturns() {
        impossibleChange(1, room -> room.addFreeze(0, 2, 1), 0, 2);
        impossibleChange(2, room -> 0, 0, 0);
        impossibleChange(4, room -> room.setLimit(0, 59), 0, 1);
        impossibleChange(5, room -> room.setTray(0, 0), 0, 1);
        impossibleChange(6, room -> room.addCable(0, 3, 4), 0, 1);
        impossibleChange(7, room -> room.setLevel(100), 0, 1);
        Check.is("done", Rooms.busy().change(0, 1), 0);
    }

    private static void impossibleChange(int due, Edges.Use spoil, int machine, int phase) {
        Edges.Make make = Edges.behind(Rooms::busy, spoil);
        Check.is("change", make.room().change(machine, phase), due);
        Edges.idle("of a change that is answered " + due, make, room -> room.change(machine, phase));
    }

    // Promise 19: backOut.

    @Says(promise = 19, value = "Backs the latest step out.")
    private static void backsOut() {
        RackMoves room = Rooms.busy();
        int[][] due = {{3, NONE, NONE, 0}, {3, NONE, NONE, 2}, {2, NONE, NONE, 2}, {1, NONE, NONE, 1},
            {0, NONE, NONE, 0}};
        for (int step = 0; step < due.length; step++) {
            Check.is("backOut", room.backOut(), 0);
            int machine = due[step][0];
            Check.is("rack of " + machine, room.machine(machine, 4), due[step][1]);
            Check.is("slot of " + machine, room.machine(machine, 5), due[step][2]);
            Check.is("phase of " + machine, room.machine(machine, 2), due[step][3]);
            Check.is("steps on the pile", room.value(11), 4 - step);
            Check.is("steps done", room.value(12), 6);
            Check.is("steps backed out", room.value(13), 2 + step);
        }
        Check.is("no more", room.backOut(), 2);
        Check.is("steps backed out", room.value(13), 6);
    }

    @Says(promise = 19, value = "Undoable, if it is done.")
    private static void backOutUndoable() {
        Edges.undoable("of backOut", Rooms::busy, RackMoves::backOut);
        Edges.undoable("of the only step", EdgesOfStepsTest::oneStep, RackMoves::backOut);
        Edges.idle("of backOut that is not done", Edges.behind(EdgesOfStepsTest::oneStep, RackMoves::backOut),
            RackMoves::backOut);
    }

    private static RackMoves oneStep() {
        RackMoves room = new RackMoves();
        room.addMachine(1, 9, 0, 0);
        room.move(0, 4);
        return room;
    }

    @Says(promise = 19, value = {"Returns 0 if it is done, otherwise the number of what makes it impossible",
        "(then nothing changes)."})
    private static void backOutReturns() {
        Edges.Make ready = Edges.behind(Rooms::busy, room -> room.move(2, NONE));
        Check.is("done", ready.room().backOut(), 0);
        impossibleBackOut(1, ready, room -> room.addFreeze(2, 2, 1));
        impossibleBackOut(2, RackMoves::new, room -> 0);
        impossibleBackOut(4, ready, room -> room.setLimit(1, 98));
        impossibleBackOut(5, ready, room -> room.setTray(0, 0));
        impossibleBackOut(6, ready, room -> room.addCable(2, 0, 4));
        impossibleBackOut(7, ready, room -> room.setLevel(28));
    }

    private static void impossibleBackOut(int due, Edges.Make ready, Edges.Use spoil) {
        Edges.Make make = Edges.behind(ready, spoil);
        Check.is("backOut", make.room().backOut(), due);
        Check.is("backable", make.room().backable(), 0);
        Edges.idle("of backOut that is answered " + due, make, RackMoves::backOut);
    }

    // Promise 20: pile.

    @Says(promise = 20, value = "Returns something about a step on the pile.")
    private static void tellsOfThePile() {
        int[][] due = {{3, NONE, NONE, 0}, {3, NONE, NONE, 2}, {2, NONE, NONE, 2}, {1, NONE, NONE, 1},
            {0, NONE, NONE, 0}, {NONE, NONE, NONE, NONE}};
        RackMoves room = Rooms.busy();
        for (int index = 0; index < due.length; index++) {
            for (int what = 0; what < 4; what++) {
                Check.is("pile(" + index + ", " + what + ")", room.pile(index, what), due[index][what]);
            }
        }
        Edges.idle("of pile", Rooms::busy, each -> each.pile(1, 3));
    }

    @Says(promise = 20, value = "`index`: 0 for the latest step, and so on")
    private static void pileIndex() {
        for (int steps = 0; steps <= 24; steps++) {
            RackMoves room = Rooms.withMachines(12);
            for (int step = 0; step < steps; step++) {
                room.move(step % 12, step / 6);
            }
            for (int index = 0; index <= 25; index++) {
                int due = index < Math.min(20, steps) ? (steps - 1 - index) % 12 : NONE;
                Check.is("machine of " + index + " behind " + steps, room.pile(index, 0), due);
            }
        }
    }

    @Says(promise = 20, value = {"`what`: 0 the machine,",
        "1 its rack before, 2 its slot before (NONE and NONE for the store),", "3 its phase before"})
    private static void pileWhat() {
        RackMoves room = Rooms.standing(5, 5, 5);
        room.change(2, 1);
        room.move(2, NONE);
        room.change(2, 2);
        room.move(2, 0);
        int[][] due = {{2, NONE, NONE, 2}, {2, NONE, NONE, 1}, {2, 5, 2, 1}, {2, 5, 2, 0}, {2, NONE, NONE, 0},
            {1, NONE, NONE, 0}};
        for (int index = 0; index < due.length; index++) {
            for (int what = 0; what < 4; what++) {
                Check.is("pile(" + index + ", " + what + ")", room.pile(index, what), due[index][what]);
            }
        }
    }

    @Says(promise = 20, value = "Returns that value; NONE if there are not so many.")
    private static void pileNotSoMany() {
        for (int index : new int[] {5, 6, 19, 20, 21, 1000, 65536, 1 << 30, Integer.MAX_VALUE - 1, Integer.MAX_VALUE}) {
            for (int what = 0; what < 4; what++) {
                Check.is("of 5 steps, " + index, Rooms.busy().pile(index, what), NONE);
                Check.is("of no steps, " + index, new RackMoves().pile(index, what), NONE);
                int ofFull = Rooms.full().pile(index, what);
                Check.is("of 20 steps, " + index, index < 20 || ofFull == NONE ? 1 : 0, 1);
            }
        }
        RackMoves room = oneStep();
        Check.is("the only one", room.pile(0, 0), 0);
        room.backOut();
        Check.is("when it is backed out", room.pile(0, 0), NONE);
        Check.is("its phase", room.pile(0, 3), NONE);
    }

    @Says(promise = 20, value = "Throws `IndexOutOfBoundsException` if index is negative")
    private static void pileNegative() {
        for (int index : new int[] {-1, -2, -20, -256, -65536, Integer.MIN_VALUE, Integer.MIN_VALUE + 5}) {
            Edges.refused("of " + index, Rooms::busy, Rooms.INDEX, room -> room.pile(index, 0));
            Edges.refused("of " + index, RackMoves::new, Rooms.INDEX, room -> room.pile(index, 3));
        }
    }

    @Says(promise = 20, value = "Throws `IllegalArgumentException` if what is out of range")
    private static void pileWhatOutOfRange() {
        Edges.bounds(Rooms::busy, 0, 3, Rooms.ARGUMENT, (room, what) -> room.pile(0, what));
        Edges.bounds(Rooms::busy, 0, 3, Rooms.ARGUMENT, (room, what) -> room.pile(5, what));
        Edges.bounds(RackMoves::new, 0, 3, Rooms.ARGUMENT, (room, what) -> room.pile(Integer.MAX_VALUE, what));
    }

    // Promise 21: mayMove.

    @Says(promise = 21, value = "Tells whether a move would be possible.")
    private static void tellsWhetherPossible() {
        for (int machine = 0; machine < 4; machine++) {
            for (int rack = NONE; rack < 6; rack++) {
                int each = machine;
                int to = rack;
                Check.is("as move tells", Rooms.busy().mayMove(machine, rack), Rooms.busy().move(machine, rack));
                Edges.idle("of mayMove", Rooms::busy, room -> room.mayMove(each, to));
            }
        }
    }

    @Says(promise = 21, value = {"`machine`: number of a machine",
        "Throws `IndexOutOfBoundsException` if there is no such machine"})
    private static void mayMoveMachine() {
        Edges.bounds(Rooms::busy, 0, 3, Rooms.INDEX, (room, machine) -> room.mayMove(machine, 2));
        Edges.bounds(Rooms::full, 0, 11, Rooms.INDEX, (room, machine) -> room.mayMove(machine, NONE));
        Edges.refused("without machines", RackMoves::new, Rooms.INDEX, room -> room.mayMove(0, 0));
    }

    @Says(promise = 21, value = {"`rack`: 0 to 5, or NONE for the store",
        "Throws `IllegalArgumentException` if rack is out of range"})
    private static void mayMoveRack() {
        Edges.bounds(Rooms::busy, NONE, 5, Rooms.ARGUMENT, (room, rack) -> room.mayMove(3, rack));
    }

    @Says(promise = 21, value = "Returns 0 if it is, otherwise the number of what makes it impossible.")
    private static void mayMoveReturns() {
        RackMoves room = Rooms.busy();
        Check.is("possible", room.mayMove(0, 2), 0);
        Check.is("there already", room.mayMove(0, 0), 2);
        Check.is("a cable", room.mayMove(0, 4), 6);
        room.setTray(1, 0);
        Check.is("a tray", room.mayMove(0, 2), 5);
        room.setLimit(2, 59);
        Check.is("a limit", room.mayMove(0, 2), 4);
        room.addFreeze(0, 2, 1);
        Check.is("a freeze", room.mayMove(0, 2), 1);
        Check.is("another one may", room.mayMove(3, 0), 0);
    }

    // Promise 22: bestRack.

    @Says(promise = 22, value = {"Finds the rack to which a machine can be moved",
        "so that the load of the fullest rack (with the greatest load) is least."})
    private static void leastLoadOfTheFullest() {
        RackMoves room = Rooms.withMachines(0);
        int[] loads = {50, 30, 40, 60, 20, 90};
        for (int rack = 0; rack < 6; rack++) {
            room.addMachine(1, loads[rack], 0, 0);
            room.move(rack, rack);
        }
        room.addMachine(1, 75, 0, 0);
        Check.is("where the fullest is 95", room.bestRack(6), 4);
        room.move(4, 1);
        Check.is("an empty one, where the fullest is 90", room.bestRack(6), 4);
        Check.is("away from the fullest", room.bestRack(5), 4);
        room.setLimit(4, 0);
        Check.is("where the fullest is 130", room.bestRack(5), 2);
        room.setLevel(0);
        Check.is("not level", room.bestRack(5), NONE);
        Edges.idle("of bestRack", Rooms::busy, each -> each.bestRack(0));
    }

    @Says(promise = 22, value = "so that the load of the fullest rack (with the greatest load) is least.")
    private static void fullestOfAllRacks() {
        for (int full = 0; full < 6; full++) {
            RackMoves room = Rooms.withMachines(0);
            room.addMachine(1, 99, 0, 0);
            room.move(0, full);
            room.addMachine(1, 1, 0, 0);
            Check.is("from the store, full is " + full, room.bestRack(1), full == 0 ? 1 : 0);
            room.move(1, full);
            Check.is("out of " + full, room.bestRack(1), full == 0 ? 1 : 0);
            for (int rack = 0; rack < 6; rack++) {
                if (rack != full) {
                    room.setLimit(rack, 0);
                }
            }
            Check.is("nowhere else, out of " + full, room.bestRack(1), NONE);
            room.move(1, NONE);
            Check.is("back, to " + full, room.bestRack(1), full);
        }
    }

    @Says(promise = 22, value = "so that the load of the fullest rack (with the greatest load) is least.")
    private static void itsLoadLeavesItsRack() {
        RackMoves room = Rooms.withMachines(0);
        int[] loads = {50, 45, 10};
        for (int machine = 0; machine < loads.length; machine++) {
            room.addMachine(1, loads[machine], 0, 0);
            room.move(machine, machine == 1 ? 1 : 0);
        }
        Check.is("rack 1 would have 55, when rack 0 has 50", room.bestRack(2), 2);
        for (int rack = 2; rack < 6; rack++) {
            room.setLimit(rack, 9);
        }
        Check.is("rack 1 is all that is left", room.bestRack(2), 1);
    }

    @Says(promise = 22, value = {"Finds the rack to which a machine can be moved",
        "so that the load of the fullest rack (with the greatest load) is least."})
    private static void bestRackAsCallsTell() {
        for (int seed = 0; seed < 200; seed++) {
            Edges.Make make = made(seed);
            for (int machine = 0; machine < make.room().value(0); machine++) {
                Check.is("bestRack of " + machine + ", " + seed, make.room().bestRack(machine), byMoves(make, machine));
            }
        }
    }

    private static int byMoves(Edges.Make make, int machine) {
        int best = NONE;
        int least = Integer.MAX_VALUE;
        for (int rack = 0; rack < 6; rack++) {
            RackMoves room = make.room();
            if (room.move(machine, rack) == 0) {
                int fullest = 0;
                for (int each = 0; each < 6; each++) {
                    fullest = Math.max(fullest, room.rack(each, 1));
                }
                best = fullest < least ? rack : best;
                least = Math.min(fullest, least);
            }
        }
        return best;
    }

    /** A room with many steps behind it, another one for each seed. */
    private static Edges.Make made(int seed) {
        return () -> {
            Random random = new Random(seed);
            RackMoves room = new RackMoves();
            for (int machine = 0; machine < 2 + seed % 11; machine++) {
                room.addMachine(1 + random.nextInt(4), 1 + random.nextInt(60), random.nextInt(3), random.nextInt(4));
            }
            for (int step = 0; step < 60; step++) {
                int machine = random.nextInt(room.value(0));
                if (random.nextInt(4) == 0) {
                    room.change(machine, random.nextInt(3));
                } else {
                    room.move(machine, random.nextInt(3 + seed % 4) - random.nextInt(2));
                }
            }
            room.addFreeze(random.nextInt(4), 0, random.nextInt(2) + 1);
            room.pass(1);
            return room;
        };
    }

    @Says(promise = 22, value = {"`machine`: number of a machine",
        "Throws `IndexOutOfBoundsException` if there is no such machine"})
    private static void bestRackMachine() {
        Edges.bounds(Rooms::busy, 0, 3, Rooms.INDEX, RackMoves::bestRack);
        Edges.bounds(Rooms::full, 0, 11, Rooms.INDEX, RackMoves::bestRack);
        Edges.refused("without machines", RackMoves::new, Rooms.INDEX, room -> room.bestRack(0));
    }

    @Says(promise = 22, value = "Returns the rack, of several the lowest one; NONE if it cannot be moved to any.")
    private static void bestRackReturns() {
        RackMoves room = Rooms.withMachines(1);
        for (int rack = 0; rack < 6; rack++) {
            Check.is("all the same from " + rack, room.bestRack(0), rack);
            room.setLimit(rack, 0);
        }
        Check.is("none", room.bestRack(0), NONE);
        RackMoves other = Rooms.standing(0);
        Check.is("the store is no rack", storeOnly(other).bestRack(0), NONE);
        Check.is("though it may go there", other.mayMove(0, NONE), 0);
    }

    private static RackMoves storeOnly(RackMoves room) {
        for (int rack = 1; rack < 6; rack++) {
            room.setLimit(rack, 0);
        }
        return room;
    }

    @Says(promise = 22, value = "NONE if it cannot be moved to any.")
    private static void bestRackByReasons() {
        RackMoves frozen = Rooms.standing(NONE);
        frozen.addFreeze(0, 0, 1);
        Check.is("a freeze", frozen.bestRack(0), NONE);
        RackMoves wrong = Rooms.standing(NONE, 3);
        wrong.setLimit(3, 0);
        Check.is("a room that is wrong elsewhere", wrong.bestRack(0), NONE);
        Check.is("but one that mends it", wrong.bestRack(1), 0);
        RackMoves cable = Rooms.standing(NONE, 3);
        cable.addCable(0, 1, 5);
        Check.is("a cable", cable.bestRack(0), 2);
        cable.setTray(2, 0);
        Check.is("a tray", cable.bestRack(0), 4);
        cable.setTray(3, 0);
        Check.is("both trays", cable.bestRack(0), 3);
    }

    // Promise 23: bestChange.

    @Says(promise = 23, value = {"Finds the change of a phase that is possible as a step now",
        "and makes the greatest difference between the phases smallest."})
    private static void smallestDifference() {
        RackMoves room = Rooms.withMachines(0);
        int[] loads = {50, 20, 30, 10};
        for (int machine = 0; machine < loads.length; machine++) {
            room.addMachine(1, loads[machine], 0, machine);
            room.move(machine, 0);
        }
        Check.is("50 leaves 60, 50 and 0", room.bestChange(), 1);
        room.change(0, 1);
        Check.is("30 leaves 30, 50 and 30", room.bestChange(), 3 * 2 + 2);
        room.addFreeze(2, 0, 1);
        Check.is("20 leaves 40, 50 and 20", room.bestChange(), 3 * 1 + 2);
        room.addFreeze(1, 0, 1);
        Check.is("10 leaves 50, 50 and 10", room.bestChange(), 3 * 3 + 2);
        room.addFreeze(3, 0, 1);
        Check.is("50 the other way makes it no smaller", room.bestChange(), NONE);
        Edges.idle("of bestChange", Rooms::busy, RackMoves::bestChange);
    }

    @Says(promise = 23, value = {"Finds the change of a phase that is possible as a step now",
        "and makes the greatest difference between the phases smallest."})
    private static void bestChangeAsCallsTell() {
        for (int seed = 0; seed < 200; seed++) {
            Edges.Make make = made(seed);
            int best = NONE;
            int least = make.room().value(9);
            for (int number = 0; number < 3 * make.room().value(0); number++) {
                RackMoves room = make.room();
                if (room.change(number / 3, number % 3) == 0 && room.value(9) < least) {
                    best = number;
                    least = room.value(9);
                }
            }
            Check.is("bestChange, " + seed, make.room().bestChange(), best);
        }
    }

    @Says(promise = 23, value = "Returns 3 * (number of the machine) + (the phase),")
    private static void bestChangeToEachPhase() {
        for (int from = 0; from < 3; from++) {
            for (int to = 0; to < 3; to++) {
                if (from != to) {
                    RackMoves room = Rooms.withMachines(0);
                    int[] loads = {1, 9, 2};
                    int[] phases = {3 - from - to, from, from};
                    for (int machine = 0; machine < 3; machine++) {
                        room.addMachine(1, loads[machine], phases[machine], 0);
                        room.move(machine, 0);
                    }
                    Check.is("from " + from + " to " + to, room.bestChange(), 3 * 1 + to);
                }
            }
        }
    }

    @Says(promise = 23, value = "Returns 3 * (number of the machine) + (the phase), of several the lowest such number;")
    private static void bestChangeReturns() {
        RackMoves room = Rooms.withMachines(12);
        room.move(11, 5);
        room.move(10, 5);
        Check.is("the last machines", room.bestChange(), 3 * 10 + 1);
        room.change(10, 1);
        Check.is("level but for one phase", room.bestChange(), NONE);
        room.move(9, 5);
        room.move(8, 5);
        Check.is("of several the lowest", room.bestChange(), 3 * 8 + 2);
        RackMoves last = Rooms.withMachines(11);
        last.addMachine(1, 2, 0, 1);
        last.move(0, 0);
        last.change(0, 1);
        last.move(1, 0);
        last.move(11, 0);
        last.addFreeze(0, 0, 1);
        Check.is("the greatest number", last.bestChange(), 3 * 11 + 2);
    }

    @Says(promise = 23, value = "NONE if none makes it smaller than it is.")
    private static void bestChangeNone() {
        Check.is("no machines", new RackMoves().bestChange(), NONE);
        Check.is("none stands", Rooms.withMachines(12).bestChange(), NONE);
        Check.is("a single one", Rooms.standing(0).bestChange(), NONE);
        RackMoves same = Rooms.standing(0, 0);
        same.change(1, 1);
        Check.is("the same difference", same.bestChange(), NONE);
        RackMoves level = Rooms.standing(0, 1, 2);
        level.change(1, 1);
        level.change(2, 2);
        Check.is("level already", level.bestChange(), NONE);
        RackMoves wrong = Rooms.standing(0, 0, 5);
        wrong.setLimit(5, 0);
        Check.is("a room that is wrong elsewhere", wrong.bestChange(), NONE);
        wrong.setLimit(5, 1);
        wrong.setLevel(1);
        Check.is("smaller, but not yet level", wrong.bestChange(), NONE);
        wrong.setLevel(2);
        Check.is("just level", wrong.bestChange(), 1);
    }

    // Promise 24: backable.

    @Says(promise = 24, value = {"Tells how many steps could be backed out now, one after the other.",
        "Returns their number."})
    private static void backableSteps() {
        for (int steps = 0; steps <= 23; steps++) {
            RackMoves room = Rooms.withMachines(12);
            for (int step = 0; step < steps; step++) {
                room.move(step % 12, step / 6);
            }
            Check.is("behind " + steps, room.backable(), Math.min(20, steps));
        }
        Check.is("in a busy room", Rooms.busy().backable(), 5);
        Edges.idle("of backable", Rooms::busy, RackMoves::backable);
        Edges.idle("of backable in a full room", Rooms::full, RackMoves::backable);
    }

    @Says(promise = 24, value = "Tells how many steps could be backed out now, one after the other.")
    private static void backableAsCallsTell() {
        for (int seed = 0; seed < 200; seed++) {
            Edges.Make make = made(seed);
            RackMoves room = make.room();
            int count = 0;
            while (room.backOut() == 0) {
                count++;
            }
            Check.is("backable, " + seed, make.room().backable(), count);
        }
    }

    @Says(promise = 24, value = "one after the other.")
    private static void backableUpToTheFirst() {
        for (int team = 0; team < 4; team++) {
            RackMoves room = Rooms.busy();
            room.addFreeze(team, 2, 1);
            int[] due = {4, 3, 2, 0};
            Check.is("up to the team " + team, room.backable(), due[team]);
            for (int step = 0; step < due[team]; step++) {
                Check.is("as backOut tells", room.backOut(), 0);
            }
            Check.is("and then", room.backOut(), 1);
        }
        RackMoves mended = Rooms.standing(0, 1, 1);
        mended.move(2, NONE);
        mended.setLimit(1, 1);
        Check.is("the second would be possible, the first is not", mended.backable(), 0);
    }

    // Promise 25: taken.

    @Says(promise = 25, value = {"Returns the share of slots that are taken.",
        "Returns the number of slots with a machine, converted to double, divided by 60.0."})
    private static void takenSlots() {
        Check.isDouble("none", new RackMoves().taken(), 0.0);
        Check.isDouble("none stands", Rooms.withMachines(12).taken(), 0.0);
        Check.isDouble("busy", Rooms.busy().taken(), 10 / 60.0);
        RackMoves room = Rooms.withMachines(0);
        for (int machine = 0; machine < 12; machine++) {
            room.addMachine(4, 1, 0, 0);
            Check.isDouble("from the store", room.taken(), 4 * machine / 60.0);
            room.move(machine, machine / 2);
            Check.isDouble("to a rack", room.taken(), 4 * (machine + 1) / 60.0);
        }
        Check.isDouble("as many as there can be", room.taken(), 0.8);
        for (int machine = 11; machine >= 0; machine--) {
            room.move(machine, NONE);
            Check.isDouble("back to the store", room.taken(), 4 * machine / 60.0);
        }
        for (int size = 1; size <= 4; size++) {
            RackMoves one = Rooms.withMachines(0);
            one.addMachine(size, 99, 2, 3);
            one.move(0, 5);
            Check.isDouble("slots, not machines", one.taken(), size / 60.0);
        }
        Edges.idle("of taken", Rooms::busy, RackMoves::taken);
    }
}
