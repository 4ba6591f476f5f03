/** Promises 1 to 10, a new object and the calls that set a room up: each sentence by a test of its own. */
public final class EdgesOfSettingsTest {
    private static final int NONE = RackMoves.NONE;

    public static void main(String[] args) {
        Sentences.run(EdgesOfSettingsTest.class);
    }

    // Promise 1: A new object.

    @Says(promise = 1, value = "Creates a room without machines, cables and freezes.")
    private static void newRoom() {
        RackMoves room = new RackMoves();
        int[] values = {0, 0, 0, 0, 0, 100, 0, 0, 0, 0, 0, 0, 0, 0};
        for (int what = 0; what < values.length; what++) {
            Check.is("value(" + what + ")", room.value(what), values[what]);
        }
        Edges.refused("the first machine", RackMoves::new, Rooms.INDEX, each -> each.machine(0, 0));
        Edges.refused("the first cable", RackMoves::new, Rooms.INDEX, each -> each.cable(0, 0));
        Edges.refused("the first freeze", RackMoves::new, Rooms.INDEX, each -> each.removeFreeze(0));
        Edges.refused("a saved state", RackMoves::new, Rooms.STATE, RackMoves::undo);
        Check.is("the text", room.clearText(), 0);
        Check.is("the pile", room.pile(0, 0), NONE);
    }

    @Says(promise = 1, value = "Creates a room")
    private static void roomsHaveNothingInCommon() {
        String before = Story.of(RackMoves::new);
        Rooms.full().undo();
        Rooms.busy().plan();
        Check.same("a new room behind others", Story.of(RackMoves::new), before);
        RackMoves one = Rooms.busy();
        long digest = one.digest();
        Rooms.full();
        Check.is("a room behind a newer one", one.digest(), digest);
    }

    // Promise 2: setLimit.

    @Says(promise = 2, value = "Sets the limit of a rack.")
    private static void setsTheLimit() {
        for (int rack = 0; rack < 6; rack++) {
            RackMoves room = new RackMoves();
            room.setLimit(rack, 7);
            for (int each = 0; each < 6; each++) {
                Check.is("limit of " + each, room.rack(each, 0), each == rack ? 7 : 200);
            }
            room.addMachine(1, 7, 0, 0);
            room.addMachine(1, 8, 0, 0);
            Check.is("above it", room.move(1, rack), 4);
            Check.is("just it", room.move(0, rack), 0);
        }
    }

    @Says(promise = 2, value = "(The room need not be right behind it.)")
    private static void limitBelowTheLoad() {
        RackMoves room = Rooms.standing(3, 3);
        Check.is("a limit below the load", room.setLimit(3, 1), 200);
        Check.is("limit", room.rack(3, 0), 1);
        Check.is("load", room.rack(3, 1), 2);
        Check.is("not right", room.value(10), 4);
        Check.is("another one in a room that is not right", room.setLimit(3, 0), 1);
    }

    @Says(promise = 2, value = "Undoable.")
    private static void setLimitUndoable() {
        Edges.undoable("of setLimit", Rooms::busy, room -> room.setLimit(0, 0));
        Edges.undoable("of setLimit in a new room", RackMoves::new, room -> room.setLimit(5, 500));
    }

    @Says(promise = 2, value = {"`rack`: 0 to 5", "Throws `IndexOutOfBoundsException` if there is no such rack"})
    private static void setLimitRack() {
        Edges.bounds(Rooms::busy, 0, 5, Rooms.INDEX, (room, rack) -> room.setLimit(rack, 1));
    }

    @Says(promise = 2, value = {"`limit`: 0 to 500", "Throws `IllegalArgumentException` if limit is out of range"})
    private static void setLimitLimit() {
        Edges.bounds(Rooms::busy, 0, 500, Rooms.ARGUMENT, (room, limit) -> room.setLimit(4, limit));
    }

    @Says(promise = 2, value = "Returns the previous limit.")
    private static void setLimitReturns() {
        RackMoves room = new RackMoves();
        int[] limits = {200, 0, 500, 500, 1, 499, 200};
        for (int i = 1; i < limits.length; i++) {
            Check.is("previous limit", room.setLimit(2, limits[i]), limits[i - 1]);
        }
        Check.is("of another rack", room.setLimit(3, 5), 200);
    }

    // Promise 3: setTray.

    @Says(promise = 3, value = "Sets the room of a tray.")
    private static void setsTheRoomOfATray() {
        for (int tray = 0; tray < 5; tray++) {
            RackMoves room = Rooms.standing(0, NONE);
            room.addCable(0, 1, 20);
            room.setTray(tray, 0);
            Check.is("short of tray " + tray, room.mayMove(1, tray), 0);
            Check.is("beyond tray " + tray, room.mayMove(1, tray + 1), 5);
            room.setTray(tray, 1);
            Check.is("room for one in " + tray, room.move(1, tray + 1), 0);
            Check.is("its cables are not its room", room.tray(tray), 1);
        }
    }

    @Says(promise = 3, value = "(The room need not be right behind it.)")
    private static void trayBelowItsCables() {
        RackMoves room = Rooms.standing(2, 3);
        room.addCable(0, 1, 20);
        Check.is("less room than cables", room.setTray(2, 0), 4);
        Check.is("not right", room.value(10), 5);
        Check.is("another one in a room that is not right", room.setTray(1, 0), 4);
    }

    @Says(promise = 3, value = "Undoable.")
    private static void setTrayUndoable() {
        Edges.undoable("of setTray", Rooms::busy, room -> room.setTray(0, 0));
        Edges.undoable("of setTray in a new room", RackMoves::new, room -> room.setTray(4, 9));
    }

    @Says(promise = 3, value = {"`tray`: 0 to 4", "Throws `IndexOutOfBoundsException` if there is no such tray"})
    private static void setTrayTray() {
        Edges.bounds(Rooms::busy, 0, 4, Rooms.INDEX, (room, tray) -> room.setTray(tray, 1));
    }

    @Says(promise = 3, value = {"`room`: 0 to 9", "Throws `IllegalArgumentException` if room is out of range"})
    private static void setTrayRoom() {
        Edges.bounds(Rooms::busy, 0, 9, Rooms.ARGUMENT, (room, size) -> room.setTray(3, size));
    }

    @Says(promise = 3, value = "Returns the previous room.")
    private static void setTrayReturns() {
        RackMoves room = new RackMoves();
        int[] sizes = {4, 0, 9, 9, 1, 8, 4};
        for (int i = 1; i < sizes.length; i++) {
            Check.is("previous room", room.setTray(1, sizes[i]), sizes[i - 1]);
        }
        Check.is("of another tray", room.setTray(0, 5), 4);
    }

    // Promise 4: setLevel.

    @Says(promise = 4, value = "Sets the level.")
    private static void setsTheLevel() {
        RackMoves room = Rooms.standing(NONE, NONE);
        room.setLevel(1);
        Check.is("level", room.value(5), 1);
        Check.is("just the level", room.move(0, 0), 0);
        Check.is("above the level", room.move(1, 0), 7);
    }

    @Says(promise = 4, value = "(The room need not be right behind it.)")
    private static void levelBelowTheDifference() {
        RackMoves room = Rooms.standing(2, 3);
        Check.is("below the difference", room.setLevel(1), 500);
        Check.is("not right", room.value(10), 7);
        Check.is("another one in a room that is not right", room.setLevel(0), 1);
    }

    @Says(promise = 4, value = "Undoable.")
    private static void setLevelUndoable() {
        Edges.undoable("of setLevel", Rooms::busy, room -> room.setLevel(0));
        Edges.undoable("of setLevel in a new room", RackMoves::new, room -> room.setLevel(500));
    }

    @Says(promise = 4, value = {"`level`: 0 to 500", "Throws `IllegalArgumentException` if level is out of range"})
    private static void setLevelLevel() {
        Edges.bounds(Rooms::busy, 0, 500, Rooms.ARGUMENT, RackMoves::setLevel);
    }

    @Says(promise = 4, value = "Returns the previous level.")
    private static void setLevelReturns() {
        RackMoves room = new RackMoves();
        int[] levels = {100, 0, 500, 500, 1, 499, 100};
        for (int i = 1; i < levels.length; i++) {
            Check.is("previous level", room.setLevel(levels[i]), levels[i - 1]);
        }
    }

    // Promise 5: addMachine.

    @Says(promise = 5, value = "Adds a machine, in the store.")
    private static void addsInTheStore() {
        RackMoves room = Rooms.standing(0, 0);
        room.setLevel(0);
        Check.is("also in a room that is not right", room.addMachine(4, 99, 1, 3), 2);
        int[] due = {4, 99, 1, 3, NONE, NONE, 0, 0};
        for (int what = 0; what < due.length; what++) {
            Check.is("machine(2, " + what + ")", room.machine(2, what), due[what]);
        }
        Check.is("machines", room.value(0), 3);
        Check.is("those that stand", room.value(1), 2);
        Check.is("it is no step", room.value(12), 2);
    }

    @Says(promise = 5, value = "Undoable.")
    private static void addMachineUndoable() {
        Edges.undoable("of addMachine", Rooms::busy, busy -> busy.addMachine(4, 99, 2, 3));
        Edges.undoable("of the first machine", RackMoves::new, empty -> empty.addMachine(1, 1, 0, 0));
        RackMoves room = Rooms.busy();
        room.addMachine(4, 99, 2, 3);
        room.undo();
        Check.is("its number is free again", room.addMachine(1, 2, 0, 1), 4);
        Check.is("its load", room.machine(4, 1), 2);
        Check.is("its rack", room.machine(4, 4), NONE);
    }

    @Says(promise = 5, value = {"`size`: 1 to 4", "Throws `IllegalArgumentException` if an argument is out of range"})
    private static void addMachineSize() {
        Edges.bounds(Rooms::busy, 1, 4, Rooms.ARGUMENT, (room, size) -> room.addMachine(size, 1, 0, 0));
    }

    @Says(promise = 5, value = {"`load`: 1 to 99", "Throws `IllegalArgumentException` if an argument is out of range"})
    private static void addMachineLoad() {
        Edges.bounds(Rooms::busy, 1, 99, Rooms.ARGUMENT, (room, load) -> room.addMachine(1, load, 0, 0));
    }

    @Says(promise = 5, value = {"`phase`: 0 to 2", "Throws `IllegalArgumentException` if an argument is out of range"})
    private static void addMachinePhase() {
        Edges.bounds(Rooms::busy, 0, 2, Rooms.ARGUMENT, (room, phase) -> room.addMachine(1, 1, phase, 0));
    }

    @Says(promise = 5, value = {"`team`: 0 to 3", "Throws `IllegalArgumentException` if an argument is out of range"})
    private static void addMachineTeam() {
        Edges.bounds(Rooms::busy, 0, 3, Rooms.ARGUMENT, (room, team) -> room.addMachine(1, 1, 0, team));
    }

    @Says(promise = 5, value = "Returns the number of the machine.")
    private static void addMachineReturns() {
        RackMoves room = new RackMoves();
        for (int machine = 0; machine < 12; machine++) {
            Check.is("number", room.addMachine(1, 1 + machine, 0, 0), machine);
        }
        for (int machine = 0; machine < 12; machine++) {
            Check.is("load of " + machine, room.machine(machine, 1), 1 + machine);
        }
    }

    @Says(promise = 5, value = "Throws `IllegalStateException` if there are 12 machines")
    private static void thirteenthMachine() {
        Edges.refused("of a 13th", Rooms::full, Rooms.STATE, room -> room.addMachine(1, 1, 0, 0));
        Check.is("the 12th", Rooms.withMachines(11).addMachine(1, 1, 0, 0), 11);
    }

    // Promise 6: addCable.

    @Says(promise = 6, value = "Adds a cable.")
    private static void addsACable() {
        RackMoves room = Rooms.standing(1, 1, 4);
        room.addCable(0, 1, 2);
        room.addCable(2, 0, 11);
        int[][] due = {{0, 1, 2, 2}, {2, 0, 11, 11}};
        for (int cable = 0; cable < 2; cable++) {
            for (int what = 0; what < 4; what++) {
                Check.is("cable(" + cable + ", " + what + ")", room.cable(cable, what), due[cable][what]);
            }
        }
        Check.is("cables", room.value(2), 2);
        Check.is("right", room.value(10), 0);
        room.addCable(2, 0, 11);
        Check.is("the same once more", room.tray(1), 2);
    }

    @Says(promise = 6, value = "(The room need not be right behind it.)")
    private static void cableThatMakesItWrong() {
        RackMoves room = Rooms.standing(0, 5);
        Check.is("too short", room.addCable(0, 1, 16), 0);
        Check.is("not right", room.value(10), 6);
        for (int cable = 1; cable < 5; cable++) {
            Check.is("more than the trays have room for", room.addCable(0, 1, 17), cable);
        }
        Check.is("not right", room.value(10), 5);
    }

    @Says(promise = 6, value = "Undoable.")
    private static void addCableUndoable() {
        Edges.undoable("of addCable", Rooms::busy, room -> room.addCable(0, 3, 1));
        Edges.undoable("of the first cable", () -> Rooms.withMachines(2), room -> room.addCable(1, 0, 20));
    }

    @Says(promise = 6, value = {"`one`: number of a machine",
        "Throws `IndexOutOfBoundsException` if there is no such machine (one of both)"})
    private static void addCableOne() {
        Edges.bounds(Rooms::busy, 0, 3, Rooms.INDEX, (room, one) -> room.addCable(one, one == 0 ? 1 : 0, 5));
        Edges.refused("without machines", RackMoves::new, Rooms.INDEX, room -> room.addCable(0, 1, 5));
    }

    @Says(promise = 6, value = {"`other`: number of another machine",
        "Throws `IndexOutOfBoundsException` if there is no such machine (one of both)"})
    private static void addCableOther() {
        Edges.bounds(Rooms::busy, 0, 3, Rooms.INDEX, (room, other) -> room.addCable(other == 0 ? 1 : 0, other, 5));
        Edges.refused("with one machine", () -> Rooms.withMachines(1), Rooms.INDEX, room -> room.addCable(0, 1, 5));
    }

    @Says(promise = 6, value = {"`length`: 1 to 20",
        "Throws `IllegalArgumentException` if both are the same, or length is out of range"})
    private static void addCableLength() {
        Edges.bounds(Rooms::busy, 1, 20, Rooms.ARGUMENT, (room, length) -> room.addCable(0, 1, length));
    }

    @Says(promise = 6, value = "Throws `IllegalArgumentException` if both are the same,")
    private static void addCableBothTheSame() {
        for (int machine = 0; machine < 4; machine++) {
            int each = machine;
            Edges.refused("of " + each + " twice", Rooms::busy, Rooms.ARGUMENT, room -> room.addCable(each, each, 5));
        }
    }

    @Says(promise = 6, value = "Returns the number of the cable.")
    private static void addCableReturns() {
        RackMoves room = Rooms.withMachines(2);
        for (int cable = 0; cable < 10; cable++) {
            Check.is("number", room.addCable(0, 1, 1 + cable), cable);
            Check.is("length of " + cable, room.cable(cable, 2), 1 + cable);
        }
        room.removeCable(3);
        Check.is("behind the last one", room.addCable(0, 1, 20), 9);
    }

    @Says(promise = 6, value = "Throws `IllegalStateException` if there are 10 cables")
    private static void eleventhCable() {
        Edges.refused("of an 11th", Rooms::full, Rooms.STATE, room -> room.addCable(0, 11, 20));
    }

    // Promise 7: removeCable.

    @Says(promise = 7, value = "Removes a cable; the numbers of those behind it decrease by 1.")
    private static void removesACable() {
        for (int count = 1; count <= 10; count++) {
            for (int removed = 0; removed < count; removed++) {
                RackMoves room = Rooms.withMachines(12);
                for (int cable = 0; cable < count; cable++) {
                    room.addCable(cable, cable + 1, cable + 1);
                }
                room.removeCable(removed);
                for (int cable = 0; cable < count - 1; cable++) {
                    int was = cable < removed ? cable : cable + 1;
                    Check.is("one of " + cable, room.cable(cable, 0), was);
                    Check.is("other of " + cable, room.cable(cable, 1), was + 1);
                    Check.is("length of " + cable, room.cable(cable, 2), was + 1);
                }
                Check.is("cables", room.value(2), count - 1);
                Check.same("no more", Check.thrownBy(() -> room.cable(room.value(2), 0)), Rooms.INDEX);
            }
        }
    }

    @Says(promise = 7, value = "Undoable.")
    private static void removeCableUndoable() {
        for (int cable = 0; cable < 3; cable++) {
            int each = cable;
            Edges.undoable("of removeCable " + each, Rooms::busy, room -> room.removeCable(each));
        }
    }

    @Says(promise = 7, value = {"`cable`: number of a cable",
        "Throws `IndexOutOfBoundsException` if there is no such cable"})
    private static void removeCableCable() {
        Edges.bounds(Rooms::busy, 0, 2, Rooms.INDEX, RackMoves::removeCable);
        Edges.bounds(Rooms::full, 0, 9, Rooms.INDEX, RackMoves::removeCable);
        Edges.refused("without cables", () -> Rooms.withMachines(2), Rooms.INDEX, room -> room.removeCable(0));
    }

    @Says(promise = 7, value = "Returns the number of cables that are left.")
    private static void removeCableReturns() {
        RackMoves room = Rooms.full();
        for (int left = 9; left >= 0; left--) {
            Check.is("cables that are left", room.removeCable(left / 2), left);
        }
    }

    // Promise 8: addFreeze.

    @Says(promise = 8, value = "Adds a freeze.")
    private static void addsAFreeze() {
        RackMoves room = Rooms.standing(0);
        room.addFreeze(0, 0, 1);
        Check.is("freezes", room.value(3), 1);
        Check.is("its hour", room.move(0, 1), 1);
        room.addFreeze(0, 0, 2);
        room.addFreeze(0, 1, 2);
        Check.is("freezes that overlap", room.value(3), 3);
        room.pass(2);
        Check.is("the last hour of the last one", room.move(0, 1), 1);
        room.addFreeze(0, 0, 1);
        room.pass(1);
        Check.is("one that is over", room.move(0, 1), 0);
    }

    @Says(promise = 8, value = "Undoable.")
    private static void addFreezeUndoable() {
        Edges.undoable("of addFreeze", Rooms::busy, room -> room.addFreeze(1, 0, 99));
        Edges.undoable("of the first freeze", RackMoves::new, room -> room.addFreeze(0, 0, 1));
    }

    @Says(promise = 8, value = {"`team`: 0 to 3", "Throws `IllegalArgumentException` if an argument is out of range"})
    private static void addFreezeTeam() {
        Edges.bounds(Rooms::busy, 0, 3, Rooms.ARGUMENT, (room, team) -> room.addFreeze(team, 0, 1));
        for (int team = 0; team < 4; team++) {
            RackMoves room = Rooms.busy();
            room.addFreeze(team, 2, 1);
            for (int machine = 0; machine < 4; machine++) {
                Check.is("team of machine " + machine, room.machine(machine, 6), machine == team ? 1 : 0);
            }
        }
    }

    @Says(promise = 8, value = {"`first`: 0 to 999",
        "Throws `IllegalArgumentException` if an argument is out of range"})
    private static void addFreezeFirst() {
        Edges.bounds(Rooms::busy, 0, 999, Rooms.ARGUMENT, (room, first) -> room.addFreeze(0, first, 1));
        int[] frozen = {0, 1, 0};
        for (int i = 0; i < frozen.length; i++) {
            RackMoves room = Rooms.at(998 + i);
            room.addMachine(1, 1, 0, 0);
            room.addFreeze(0, 999, 1);
            Check.is("the last first hour, at " + room.value(4), room.machine(0, 6), frozen[i]);
        }
    }

    @Says(promise = 8, value = {"`hours`: 1 to 99", "Throws `IllegalArgumentException` if an argument is out of range"})
    private static void addFreezeHours() {
        Edges.bounds(Rooms::busy, 1, 99, Rooms.ARGUMENT, (room, hours) -> room.addFreeze(0, 2, hours));
        for (int hours : new int[] {1, 2, 98, 99}) {
            RackMoves room = Rooms.standing(0);
            room.addFreeze(0, 0, hours);
            Rooms.passTo(room, hours - 1);
            Check.is("the last of " + hours, room.machine(0, 6), 1);
            room.pass(1);
            Check.is("behind " + hours, room.machine(0, 6), 0);
        }
    }

    @Says(promise = 8, value = "Returns the number of the freeze.")
    private static void addFreezeReturns() {
        RackMoves room = new RackMoves();
        for (int freeze = 0; freeze < 6; freeze++) {
            Check.is("number", room.addFreeze(freeze % 4, freeze, 1), freeze);
        }
        room.removeFreeze(0);
        Check.is("behind the last one", room.addFreeze(0, 0, 1), 5);
    }

    @Says(promise = 8, value = "Throws `IllegalStateException` if there are 6 freezes")
    private static void seventhFreeze() {
        Edges.refused("of a 7th", Rooms::full, Rooms.STATE, room -> room.addFreeze(0, 0, 1));
    }

    // Promise 9: removeFreeze.

    @Says(promise = 9, value = "Removes a freeze; the numbers of those behind it decrease by 1.")
    private static void removesAFreeze() {
        for (int first = 0; first < 4; first++) {
            for (int second = 0; second < 3; second++) {
                RackMoves room = fourFreezes();
                room.removeFreeze(first);
                room.removeFreeze(second);
                int other = second < first ? second : second + 1;
                for (int team = 0; team < 4; team++) {
                    int due = team == first || team == other ? 0 : 1;
                    Check.is("team " + team + " without " + first + ", " + other, room.machine(team, 6), due);
                }
            }
        }
    }

    /** The freeze of each number is of the team of this number, and so is a machine. */
    private static RackMoves fourFreezes() {
        RackMoves room = new RackMoves();
        for (int team = 0; team < 4; team++) {
            room.addMachine(1, 1, 0, team);
            room.addFreeze(team, 0, 1);
        }
        return room;
    }

    @Says(promise = 9, value = "Undoable.")
    private static void removeFreezeUndoable() {
        Edges.undoable("of removeFreeze 0", Rooms::busy, room -> room.removeFreeze(0));
        Edges.undoable("of removeFreeze 1", Rooms::busy, room -> room.removeFreeze(1));
    }

    @Says(promise = 9, value = {"`freeze`: number of a freeze",
        "Throws `IndexOutOfBoundsException` if there is no such freeze"})
    private static void removeFreezeFreeze() {
        Edges.bounds(Rooms::busy, 0, 1, Rooms.INDEX, RackMoves::removeFreeze);
        Edges.bounds(Rooms::full, 0, 5, Rooms.INDEX, RackMoves::removeFreeze);
        Edges.refused("without freezes", RackMoves::new, Rooms.INDEX, room -> room.removeFreeze(0));
    }

    @Says(promise = 9, value = "Returns the number of freezes that are left.")
    private static void removeFreezeReturns() {
        RackMoves room = Rooms.full();
        for (int left = 5; left >= 0; left--) {
            Check.is("freezes that are left", room.removeFreeze(left / 2), left);
        }
    }

    // Promise 10: pass.

    @Says(promise = 10, value = "Lets hours pass.")
    private static void letsHoursPass() {
        RackMoves room = Rooms.standing(0);
        room.addFreeze(0, 99, 1);
        room.pass(98);
        Check.is("ahead of the freeze", room.change(0, 1), 0);
        room.pass(1);
        Check.is("hour", room.value(4), 99);
        Check.is("in the freeze", room.change(0, 2), 1);
        room.pass(99);
        Check.is("hour", room.value(4), 198);
        Check.is("behind the freeze", room.change(0, 2), 0);
    }

    @Says(promise = 10, value = "Undoable.")
    private static void passUndoable() {
        Edges.undoable("of pass", Rooms::busy, room -> room.pass(99));
        Edges.undoable("of the first hour", RackMoves::new, room -> room.pass(1));
    }

    @Says(promise = 10, value = {"`hours`: 1 to 99", "Throws `IllegalArgumentException` if hours is out of range"})
    private static void passHours() {
        Edges.bounds(Rooms::busy, 1, 99, Rooms.ARGUMENT, RackMoves::pass);
        Edges.refusedBeyond(() -> Rooms.at(2000), 1, 99, Rooms.ARGUMENT, RackMoves::pass);
    }

    @Says(promise = 10, value = "Returns the hour then.")
    private static void passReturns() {
        RackMoves room = new RackMoves();
        int hour = 0;
        for (int hours = 1; hours <= 62; hours++) {
            hour += hours;
            Check.is("the hour then", room.pass(hours), hour);
            Check.is("the hour told", room.value(4), hour);
        }
    }

    @Says(promise = 10, value = "Throws `IllegalStateException` if the hour would be greater than 2000")
    private static void passBeyondTheLastHour() {
        for (int hours = 1; hours <= 99; hours++) {
            int each = hours;
            Check.is("to 2000 by " + hours, Rooms.at(2000 - hours).pass(hours), 2000);
            RackMoves room = Rooms.at(2001 - hours);
            Check.same("to 2001 by " + hours, Check.thrownBy(() -> room.pass(each)), Rooms.STATE);
            Check.is("hour", room.value(4), 2001 - hours);
        }
        Edges.refused("of 1 hour", () -> Rooms.at(2000), Rooms.STATE, room -> room.pass(1));
        Edges.refused("of 99 hours", () -> Rooms.at(2000), Rooms.STATE, room -> room.pass(99));
    }
}
