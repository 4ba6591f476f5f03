/** Promises 11 to 16, the calls that tell something about the room: each sentence by a test of its own. */
public final class EdgesOfTellingTest {
    private static final int NONE = RackMoves.NONE;

    public static void main(String[] args) {
        Sentences.run(EdgesOfTellingTest.class);
    }

    // Promise 11: machine.

    @Says(promise = 11, value = {"Returns something about a machine.", "Returns that value."})
    private static void tellsOfAMachine() {
        int[][] due = {{4, 60, 0, 0, 0, 0, 0, 1}, {3, 50, 1, 1, 1, 0, 0, 2}, {2, 40, 2, 2, 1, 3, 0, 2},
            {1, 9, 0, 3, 1, 5, 0, 1}};
        RackMoves room = Rooms.busy();
        for (int machine = 0; machine < due.length; machine++) {
            for (int what = 0; what < 8; what++) {
                Check.is("machine(" + machine + ", " + what + ")", room.machine(machine, what), due[machine][what]);
            }
        }
        Edges.idle("of machine", Rooms::busy, each -> each.machine(3, 7));
    }

    @Says(promise = 11, value = {"`machine`: number of a machine",
        "Throws `IndexOutOfBoundsException` if there is no such machine"})
    private static void machineNumber() {
        Edges.bounds(Rooms::busy, 0, 3, Rooms.INDEX, (room, machine) -> room.machine(machine, 0));
        Edges.bounds(Rooms::full, 0, 11, Rooms.INDEX, (room, machine) -> room.machine(machine, 7));
        Edges.refused("without machines", RackMoves::new, Rooms.INDEX, room -> room.machine(0, 0));
    }

    @Says(promise = 11, value = "Throws `IllegalArgumentException` if what is out of range")
    private static void machineWhat() {
        Edges.bounds(Rooms::busy, 0, 7, Rooms.ARGUMENT, (room, what) -> room.machine(0, what));
    }

    @Says(promise = 11, value = "`what`: 0 its size, 1 its load, 2 its phase, 3 its team,")
    private static void machineAsAdded() {
        int[][] machines = {{1, 1, 0, 0}, {4, 99, 2, 3}};
        RackMoves room = Rooms.withMachines(0);
        for (int machine = 0; machine < machines.length; machine++) {
            int[] each = machines[machine];
            room.addMachine(each[0], each[1], each[2], each[3]);
            room.move(machine, 5);
            for (int what = 0; what < 4; what++) {
                Check.is("what " + what, room.machine(machine, what), each[what]);
            }
        }
        room.change(1, 0);
        Check.is("its phase then", room.machine(1, 2), 0);
    }

    @Says(promise = 11, value = "4 its rack (NONE in the store), 5 its lowest slot (NONE in the store),")
    private static void machinePlace() {
        RackMoves room = Rooms.standing(0, NONE, 5, 5);
        int[][] due = {{0, 0}, {NONE, NONE}, {5, 0}, {5, 1}};
        for (int machine = 0; machine < due.length; machine++) {
            Check.is("rack of " + machine, room.machine(machine, 4), due[machine][0]);
            Check.is("slot of " + machine, room.machine(machine, 5), due[machine][1]);
        }
        RackMoves filled = Rooms.standing(3, 3, 3, 3, 3, 3, 3, 3, 3, 3);
        Check.is("the last slot", filled.machine(9, 5), 9);
        filled.move(9, NONE);
        Check.is("rack in the store again", filled.machine(9, 4), NONE);
        Check.is("slot in the store again", filled.machine(9, 5), NONE);
    }

    @Says(promise = 11, value = "6 1 if a freeze of its team has the present hour, otherwise 0,")
    private static void machineFrozen() {
        RackMoves room = Rooms.standing(0, NONE);
        room.addMachine(1, 1, 0, 1);
        room.addFreeze(0, 1, 2);
        room.addFreeze(0, 2, 2);
        int[] due = {0, 1, 1, 1, 0};
        for (int hour = 0; hour < due.length; hour++) {
            Check.is("standing, at " + hour, room.machine(0, 6), due[hour]);
            Check.is("in the store, at " + hour, room.machine(1, 6), due[hour]);
            Check.is("of another team, at " + hour, room.machine(2, 6), 0);
            room.pass(1);
        }
    }

    @Says(promise = 11, value = "7 its cables")
    private static void machineCables() {
        RackMoves room = Rooms.standing(0, 0, NONE);
        Check.is("none", room.machine(0, 7), 0);
        for (int cable = 0; cable < 10; cable++) {
            room.addCable(cable % 2, 2 - cable % 2 * 2, 20);
        }
        Check.is("five of one, five of other", room.machine(0, 7), 10);
        Check.is("coiled up ones too", room.machine(2, 7), 5);
        Check.is("those of the third", room.machine(1, 7), 5);
        room.removeCable(9);
        Check.is("one less", room.machine(1, 7), 4);
    }

    // Promise 12: rack.

    @Says(promise = 12, value = {"Returns something about a rack.", "Returns that value."})
    private static void tellsOfARack() {
        int[][] due = {{200, 60, 60, 0, 0, 1, 6, 4}, {200, 99, 9, 50, 40, 3, 4, 4}, {200, 0, 0, 0, 0, 0, 10, 4},
            {200, 0, 0, 0, 0, 0, 10, 4}, {200, 0, 0, 0, 0, 0, 10, 4}, {150, 0, 0, 0, 0, 0, 10, 4}};
        RackMoves room = Rooms.busy();
        for (int rack = 0; rack < due.length; rack++) {
            for (int what = 0; what < 8; what++) {
                Check.is("rack(" + rack + ", " + what + ")", room.rack(rack, what), due[rack][what]);
            }
        }
        Edges.idle("of rack", Rooms::busy, each -> each.rack(1, 7));
    }

    @Says(promise = 12, value = {"`rack`: 0 to 5", "Throws `IndexOutOfBoundsException` if there is no such rack"})
    private static void rackNumber() {
        for (int what = 0; what < 8; what++) {
            int each = what;
            Edges.bounds(Rooms::busy, 0, 5, Rooms.INDEX, (room, rack) -> room.rack(rack, each));
        }
    }

    @Says(promise = 12, value = "Throws `IllegalArgumentException` if what is out of range")
    private static void rackWhat() {
        Edges.bounds(Rooms::busy, 0, 7, Rooms.ARGUMENT, (room, what) -> room.rack(5, what));
    }

    @Says(promise = 12, value = "`what`: 0 its limit, 1 its load,")
    private static void rackLimitAndLoad() {
        RackMoves room = Rooms.standing(0, 0, 1);
        room.setLimit(0, 0);
        Check.is("limit, below its load", room.rack(0, 0), 0);
        Check.is("load, above its limit", room.rack(0, 1), 2);
        Check.is("limit of the next one", room.rack(1, 0), 200);
        Check.is("load of the next one", room.rack(1, 1), 1);
        Check.is("load of an empty one", room.rack(2, 1), 0);
    }

    @Says(promise = 12, value = "2 to 4 its load on the phases 0 to 2,")
    private static void rackLoadOnPhases() {
        RackMoves room = Rooms.withMachines(0);
        int[] loads = {1, 99, 5, 40, 7, 60};
        for (int machine = 0; machine < loads.length; machine++) {
            room.addMachine(1, loads[machine], machine % 3, 0);
            room.move(machine, machine < 4 ? 2 : 3);
        }
        int[][] due = {{41, 99, 5}, {0, 7, 60}, {0, 0, 0}};
        for (int rack = 2; rack < 5; rack++) {
            for (int phase = 0; phase < 3; phase++) {
                Check.is("of " + rack + " on " + phase, room.rack(rack, 2 + phase), due[rack - 2][phase]);
            }
        }
        room.change(0, 2);
        Check.is("then on 0", room.rack(2, 2), 40);
        Check.is("then on 2", room.rack(2, 4), 6);
        Check.is("in all", room.rack(2, 1), 145);
    }

    @Says(promise = 12, value = "5 its machines, 6 its free slots,")
    private static void rackMachinesAndSlots() {
        RackMoves room = Rooms.withMachines(0);
        int[] sizes = {4, 3, 2, 1};
        int free = 10;
        for (int machine = 0; machine < sizes.length; machine++) {
            room.addMachine(sizes[machine], 1, 0, 0);
            room.move(machine, 4);
            free -= sizes[machine];
            Check.is("machines", room.rack(4, 5), machine + 1);
            Check.is("free slots", room.rack(4, 6), free);
        }
        room.move(1, NONE);
        Check.is("machines without one", room.rack(4, 5), 3);
        Check.is("free slots without one", room.rack(4, 6), 3);
        Check.is("machines of an empty one", room.rack(5, 5), 0);
        Check.is("free slots of an empty one", room.rack(5, 6), 10);
    }

    @Says(promise = 12, value = "7 the greatest size of a machine that would find slots in it, 0 to 4")
    private static void rackGreatestSize() {
        for (int taken = 0; taken < 1 << 10; taken++) {
            RackMoves room = Rooms.standing(2, 2, 2, 2, 2, 2, 2, 2, 2, 2);
            int run = 0;
            int longest = 0;
            for (int slot = 0; slot < 10; slot++) {
                boolean isTaken = (taken >> slot & 1) != 0;
                if (!isTaken) {
                    room.move(slot, NONE);
                }
                run = isTaken ? 0 : run + 1;
                longest = Math.max(longest, run);
            }
            Check.is("greatest size with " + taken, room.rack(2, 7), Math.min(4, longest));
        }
    }

    // Promise 13: slot.

    @Says(promise = 13, value = "Returns the machine in a slot.")
    private static void tellsOfASlot() {
        int[] due = {1, 1, 1, 2, 2, 3, NONE, NONE, NONE, NONE};
        RackMoves room = Rooms.busy();
        for (int slot = 0; slot < 10; slot++) {
            Check.is("slot(1, " + slot + ")", room.slot(1, slot), due[slot]);
            Check.is("slot(0, " + slot + ")", room.slot(0, slot), slot < 4 ? 0 : NONE);
        }
        Edges.idle("of slot", Rooms::busy, each -> each.slot(1, 0));
    }

    @Says(promise = 13, value = {"`rack`: 0 to 5",
        "Throws `IndexOutOfBoundsException` if there is no such rack or slot"})
    private static void slotRack() {
        Edges.bounds(Rooms::busy, 0, 5, Rooms.INDEX, (room, rack) -> room.slot(rack, 0));
        Edges.bounds(Rooms::busy, 0, 5, Rooms.INDEX, (room, rack) -> room.slot(rack, 9));
    }

    @Says(promise = 13, value = {"`slot`: 0 to 9",
        "Throws `IndexOutOfBoundsException` if there is no such rack or slot"})
    private static void slotSlot() {
        Edges.bounds(Rooms::busy, 0, 9, Rooms.INDEX, (room, slot) -> room.slot(0, slot));
        Edges.bounds(Rooms::busy, 0, 9, Rooms.INDEX, (room, slot) -> room.slot(5, slot));
    }

    @Says(promise = 13, value = "Returns the machine; NONE if the slot is free.")
    private static void slotReturns() {
        RackMoves room = Rooms.standing(0, 5, 0, 5);
        Check.is("machine 0, not free", room.slot(0, 0), 0);
        Check.is("in the last rack", room.slot(5, 1), 3);
        room.move(0, NONE);
        Check.is("free then", room.slot(0, 0), NONE);
        Check.is("the one behind it", room.slot(0, 1), 2);
        Check.is("the one in the store is in none", room.slot(0, 9), NONE);
    }

    // Promise 14: cable.

    @Says(promise = 14, value = {"Returns something about a cable.", "Returns that value."})
    private static void tellsOfACable() {
        int[][] due = {{0, 1, 8, 5}, {1, 2, 20, 2}, {2, 3, 5, 2}};
        RackMoves room = Rooms.busy();
        for (int cable = 0; cable < due.length; cable++) {
            for (int what = 0; what < 4; what++) {
                Check.is("cable(" + cable + ", " + what + ")", room.cable(cable, what), due[cable][what]);
            }
        }
        Edges.idle("of cable", Rooms::busy, each -> each.cable(2, 3));
    }

    @Says(promise = 14, value = {"`cable`: number of a cable",
        "Throws `IndexOutOfBoundsException` if there is no such cable"})
    private static void cableNumber() {
        Edges.bounds(Rooms::busy, 0, 2, Rooms.INDEX, (room, cable) -> room.cable(cable, 0));
        Edges.bounds(Rooms::full, 0, 9, Rooms.INDEX, (room, cable) -> room.cable(cable, 3));
        Edges.refused("without cables", () -> Rooms.standing(0, 0), Rooms.INDEX, room -> room.cable(0, 0));
    }

    @Says(promise = 14, value = "Throws `IllegalArgumentException` if what is out of range")
    private static void cableWhat() {
        Edges.bounds(Rooms::busy, 0, 3, Rooms.ARGUMENT, (room, what) -> room.cable(2, what));
    }

    @Says(promise = 14, value = "`what`: 0 and 1 the machines that it joins, as they were told, 2 its length,")
    private static void cableAsTold() {
        RackMoves room = Rooms.standing(5, 0);
        room.addCable(0, 1, 20);
        room.addCable(1, 0, 1);
        int[][] due = {{0, 1, 20}, {1, 0, 1}};
        for (int cable = 0; cable < 2; cable++) {
            for (int what = 0; what < 3; what++) {
                Check.is("cable(" + cable + ", " + what + ")", room.cable(cable, what), due[cable][what]);
            }
        }
    }

    @Says(promise = 14, value = "3 what it needs (0 if it is coiled up)")
    private static void cableNeeds() {
        RackMoves room = Rooms.withMachines(2);
        room.addCable(1, 0, 20);
        Check.is("both in the store", room.cable(0, 3), 0);
        room.move(1, 5);
        Check.is("the other one in the store", room.cable(0, 3), 0);
        for (int rack = 0; rack < 6; rack++) {
            room.move(0, rack);
            Check.is("from " + rack + " to 5", room.cable(0, 3), 2 + 3 * (5 - rack));
        }
        room.move(1, NONE);
        Check.is("the one in the store", room.cable(0, 3), 0);
        RackMoves wrong = Rooms.standing(0, 5);
        wrong.addCable(0, 1, 1);
        Check.is("more than its length", wrong.cable(0, 3), 17);
    }

    // Promise 15: tray.

    @Says(promise = 15, value = {"Returns the number of cables in a tray.", "Returns their number."})
    private static void tellsOfATray() {
        RackMoves room = Rooms.standing(0, 2, 3, 3, NONE);
        int[][] ends = {{0, 1}, {1, 0}, {1, 2}, {2, 0}, {2, 3}, {4, 0}};
        for (int[] each : ends) {
            room.addCable(each[0], each[1], 1);
        }
        int[] due = {3, 3, 2, 0, 0};
        for (int tray = 0; tray < 5; tray++) {
            Check.is("cables in " + tray, room.tray(tray), due[tray]);
        }
        room.removeCable(0);
        Check.is("one less", room.tray(1), 2);
        Edges.idle("of tray", Rooms::busy, each -> each.tray(0));
    }

    @Says(promise = 15, value = {"Returns the number of cables in a tray.", "Returns their number."})
    private static void moreThanTheTrayHasRoomFor() {
        RackMoves room = Rooms.standing(4, 5);
        room.setTray(4, 0);
        for (int cable = 1; cable <= 10; cable++) {
            room.addCable(0, 1, 20);
            Check.is("all are told", room.tray(4), cable);
        }
    }

    @Says(promise = 15, value = {"`tray`: 0 to 4", "Throws `IndexOutOfBoundsException` if there is no such tray"})
    private static void trayNumber() {
        Edges.bounds(Rooms::busy, 0, 4, Rooms.INDEX, RackMoves::tray);
        Edges.bounds(RackMoves::new, 0, 4, Rooms.INDEX, RackMoves::tray);
    }

    // Promise 16: value.

    @Says(promise = 16, value = {"Returns a number.", "Returns that number."})
    private static void tellsNumbers() {
        int[] due = {4, 4, 3, 2, 2, 120, 69, 50, 40, 29, 0, 5, 6, 1};
        RackMoves room = Rooms.busy();
        for (int what = 0; what < due.length; what++) {
            Check.is("value(" + what + ")", room.value(what), due[what]);
        }
        Edges.idle("of value", Rooms::busy, each -> each.value(10));
    }

    @Says(promise = 16, value = "Throws `IllegalArgumentException` if what is out of range")
    private static void valueWhat() {
        Edges.bounds(Rooms::busy, 0, 13, Rooms.ARGUMENT, RackMoves::value);
        Edges.bounds(RackMoves::new, 0, 13, Rooms.ARGUMENT, RackMoves::value);
    }

    @Says(promise = 16, value = "`what`: 0 the machines, 1 those that stand, 2 the cables, 3 the freezes,")
    private static void valueCounts() {
        RackMoves room = Rooms.full();
        int[] full = {12, 12, 10, 6};
        for (int what = 0; what < 4; what++) {
            Check.is("value(" + what + ") of a full room", room.value(what), full[what]);
        }
        RackMoves other = Rooms.standing(0, NONE, 5, NONE);
        Check.is("machines", other.value(0), 4);
        Check.is("those that stand", other.value(1), 2);
        other.addCable(1, 3, 1);
        Check.is("cables that are coiled up too", other.value(2), 1);
        other.addFreeze(0, 0, 1);
        other.pass(50);
        Check.is("freezes that are over too", other.value(3), 1);
    }

    @Says(promise = 16, value = "4 the hour, 5 the level,")
    private static void valueHourAndLevel() {
        RackMoves room = Rooms.at(2000);
        Check.is("hour", room.value(4), 2000);
        Check.is("level", room.value(5), 100);
        room.setLevel(0);
        Check.is("level", room.value(5), 0);
        room.setLevel(500);
        Check.is("level", room.value(5), 500);
        Check.is("hour", room.value(4), 2000);
    }

    @Says(promise = 16, value = "6 to 8 the loads of the phases 0 to 2,")
    private static void valueLoads() {
        RackMoves room = Rooms.withMachines(0);
        for (int machine = 0; machine < 12; machine++) {
            room.addMachine(1, 1 << machine % 6, machine % 3, 0);
            room.move(machine, machine % 2 == 0 ? 0 : 5);
        }
        int[] due = {18, 36, 72};
        for (int phase = 0; phase < 3; phase++) {
            Check.is("load of " + phase, room.value(6 + phase), due[phase]);
        }
        room.move(11, NONE);
        Check.is("without one in the store", room.value(8), 40);
    }

    @Says(promise = 16, value = "9 the greatest difference between them,")
    private static void valueDifference() {
        int[][] loads = {{1, 1, 1, 0}, {2, 1, 1, 1}, {1, 2, 1, 1}, {1, 1, 2, 1}, {1, 2, 2, 1}, {2, 1, 2, 1},
            {2, 2, 1, 1}, {99, 1, 50, 98}, {1, 50, 99, 98}, {50, 99, 1, 98}, {50, 1, 99, 98}};
        for (int[] each : loads) {
            RackMoves room = Rooms.withMachines(0);
            for (int phase = 0; phase < 3; phase++) {
                room.addMachine(1, each[phase], phase, 0);
                room.move(phase, 0);
            }
            Check.is("difference", room.value(9), each[3]);
            room.move(0, NONE);
            Check.is("with a phase without load", room.value(9), Math.max(each[1], each[2]));
        }
    }

    @Says(promise = 16, value = {"10 0 if the room is right, otherwise 4 to 7, the first thing that is wrong,",
        "as for steps,"})
    private static void valueFirstWrong() {
        for (int faults = 0; faults < 16; faults++) {
            RackMoves room = Rooms.standing(0, 1, 1);
            if ((faults & 1) != 0) {
                room.setLimit(0, 0);
            }
            room.addCable(0, 1, 5);
            if ((faults & 2) != 0) {
                room.setTray(0, 0);
            }
            room.addCable(1, 2, (faults & 4) != 0 ? 1 : 2);
            room.setLevel((faults & 8) != 0 ? 2 : 3);
            int due = faults == 0 ? 0 : 4 + Integer.numberOfTrailingZeros(faults);
            Check.is("what is wrong first, of " + faults, room.value(10), due);
        }
    }

    @Says(promise = 16, value = "11 the steps on the pile, 12 the steps done so far, 13 those backed out so far")
    private static void valueSteps() {
        RackMoves room = Rooms.withMachines(1);
        for (int step = 1; step <= 25; step++) {
            room.move(0, step % 6);
            stepsAre(room, Math.min(20, step), step, 0);
        }
        room.move(0, 1);
        stepsAre(room, 20, 25, 0);
        for (int back = 1; back <= 20; back++) {
            room.backOut();
            stepsAre(room, 20 - back, 25, back);
        }
        room.backOut();
        stepsAre(room, 0, 25, 20);
        Rooms.plan(room, "p0>1;h;m0>s;");
        stepsAre(room, 2, 27, 20);
        room.undo();
        stepsAre(room, 0, 25, 20);
        room.undo();
        stepsAre(room, 1, 25, 19);
    }

    private static void stepsAre(RackMoves room, int... due) {
        for (int what = 11; what <= 13; what++) {
            Check.is("value(" + what + ")", room.value(what), due[what - 11]);
        }
    }
}
