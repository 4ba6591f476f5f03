/** Promises 1 to 16: the room, and what is told of it. */
public final class RoomTest {
    public static void main(String[] args) {
        promise1();
        promise2();
        promise3();
        promise4();
        promise5();
        promise6();
        promise7();
        promise8();
        promise9();
        promise10();
        promise11();
        promise12();
        promise12GreatestSize();
        promise13();
        promise14();
        promise15();
        promise16();
        promise16FirstWrong();
        Check.end();
    }

    private static void promise1() {
        RackMoves room = new RackMoves();
        Check.is("NONE", RackMoves.NONE, -1);
        int[] values = {0, 0, 0, 0, 0, 100, 0, 0, 0, 0, 0, 0, 0, 0};
        for (int what = 0; what < values.length; what++) {
            Check.is("new value(" + what + ")", room.value(what), values[what]);
        }
        int[] ofRack = {200, 0, 0, 0, 0, 0, 10, 4};
        for (int rack = 0; rack < 6; rack++) {
            for (int what = 0; what < ofRack.length; what++) {
                Check.is("new rack(" + rack + ", " + what + ")", room.rack(rack, what), ofRack[what]);
            }
            for (int slot = 0; slot < 10; slot++) {
                Check.is("new slot(" + rack + ", " + slot + ")", room.slot(rack, slot), RackMoves.NONE);
            }
        }
        for (int tray = 0; tray < 5; tray++) {
            Check.is("new tray(" + tray + ")", room.tray(tray), 0);
            Check.is("new room of tray", room.setTray(tray, 4), 4);
        }
        Check.is("new clearText()", new RackMoves().clearText(), 0);
        Check.refused("new undo()", new RackMoves(), Rooms.STATE, () -> new RackMoves().undo());
        Check.refused("new machine(0, 0)", room, Rooms.INDEX, () -> room.machine(0, 0));
        Check.refused("new cable(0, 0)", room, Rooms.INDEX, () -> room.cable(0, 0));
        Check.refused("new removeFreeze(0)", room, Rooms.INDEX, () -> room.removeFreeze(0));
    }

    private static void promise2() {
        RackMoves room = Rooms.withMachines(1);
        for (int rack = 0; rack < 6; rack++) {
            Check.is("setLimit", room.setLimit(rack, 500 - rack), 200);
        }
        Check.is("limit 5", room.rack(5, 0), 495);
        Check.is("setLimit again", room.setLimit(0, 0), 500);
        Check.is("limit 0", room.rack(0, 0), 0);
        Check.is("limit 1", room.rack(1, 0), 499);
        Check.is("undo setLimit", room.undo(), 3);
        Check.is("limit restored", room.rack(0, 0), 500);
        room.move(0, 0);
        Check.is("limit below the load", room.setLimit(0, 0), 500);
        Check.is("room not right", room.value(10), 4);
        Rooms.undoAll(room);
        room.setLimit(3, room.rack(3, 0));
        Check.is("the same limit is saved too", Rooms.undoAll(room), 1);
        for (int rack : new int[] {-1, 6, Integer.MIN_VALUE, Integer.MAX_VALUE}) {
            Check.refused("setLimit no rack", room, Rooms.INDEX, () -> room.setLimit(rack, 0));
            Check.refused("setLimit no rack, no limit", room, Rooms.INDEX, () -> room.setLimit(rack, -1));
        }
        for (int limit : new int[] {-1, 501, Integer.MIN_VALUE, Integer.MAX_VALUE}) {
            Check.refused("setLimit no limit", room, Rooms.ARGUMENT, () -> room.setLimit(0, limit));
        }
    }

    private static void promise3() {
        RackMoves room = Rooms.withMachines(2);
        for (int tray = 0; tray < 5; tray++) {
            Check.is("setTray", room.setTray(tray, 9 - tray), 4);
        }
        for (int tray = 0; tray < 5; tray++) {
            Check.is("setTray again", room.setTray(tray, 0), 9 - tray);
        }
        Check.is("undo setTray", room.undo(), 3);
        Check.is("room of tray restored", room.setTray(4, 1), 5);
        room.addCable(0, 1, 20);
        room.move(0, 4);
        room.move(1, 5);
        Check.is("room of tray below its cables", room.setTray(4, 0), 1);
        Check.is("room not right", room.value(10), 5);
        Check.is("tray keeps its cable", room.tray(4), 1);
        Rooms.undoAll(room);
        room.setTray(0, 0);
        Check.is("the same room of a tray is saved too", Rooms.undoAll(room), 1);
        for (int tray : new int[] {-1, 5, Integer.MIN_VALUE, Integer.MAX_VALUE}) {
            Check.refused("setTray no tray", room, Rooms.INDEX, () -> room.setTray(tray, 0));
            Check.refused("setTray no tray, no room", room, Rooms.INDEX, () -> room.setTray(tray, 10));
        }
        for (int size : new int[] {-1, 10, Integer.MIN_VALUE, Integer.MAX_VALUE}) {
            Check.refused("setTray no room", room, Rooms.ARGUMENT, () -> room.setTray(0, size));
        }
    }

    private static void promise4() {
        RackMoves room = new RackMoves();
        Check.is("setLevel", room.setLevel(500), 100);
        Check.is("setLevel 0", room.setLevel(0), 500);
        Check.is("level", room.value(5), 0);
        Check.is("undo setLevel", room.undo(), 1);
        Check.is("level restored", room.value(5), 500);
        room.addMachine(1, 7, 0, 0);
        room.move(0, 0);
        Check.is("level below the difference", room.setLevel(6), 500);
        Check.is("room not right", room.value(10), 7);
        Rooms.undoAll(room);
        room.setLevel(room.value(5));
        Check.is("the same level is saved too", Rooms.undoAll(room), 1);
        for (int level : new int[] {-1, 501, Integer.MIN_VALUE, Integer.MAX_VALUE}) {
            Check.refused("setLevel no level", room, Rooms.ARGUMENT, () -> room.setLevel(level));
        }
    }

    private static void promise5() {
        RackMoves room = new RackMoves();
        Check.is("addMachine", room.addMachine(4, 99, 2, 3), 0);
        Check.is("addMachine", room.addMachine(1, 1, 0, 0), 1);
        int[][] due = {{4, 99, 2, 3, -1, -1, 0, 0}, {1, 1, 0, 0, -1, -1, 0, 0}};
        for (int machine = 0; machine < 2; machine++) {
            for (int what = 0; what < 8; what++) {
                Check.is("machine(" + machine + ", " + what + ")", room.machine(machine, what), due[machine][what]);
            }
        }
        Check.is("undo addMachine", room.undo(), 1);
        Check.is("machines", room.value(0), 1);
        int[][] bad = {{0, 1, 0, 0}, {5, 1, 0, 0}, {1, 0, 0, 0}, {1, 100, 0, 0}, {1, 1, -1, 0}, {1, 1, 3, 0},
            {1, 1, 0, -1}, {1, 1, 0, 4}};
        for (int[] one : bad) {
            Check.refused("addMachine", room, Rooms.ARGUMENT, () -> room.addMachine(one[0], one[1], one[2], one[3]));
        }
        for (int far : Rooms.FAR) {
            Check.refused("addMachine far", room, Rooms.ARGUMENT, () -> room.addMachine(far, 1, 0, 0));
            Check.refused("addMachine far", room, Rooms.ARGUMENT, () -> room.addMachine(1, far, 0, 0));
            Check.refused("addMachine far", room, Rooms.ARGUMENT, () -> room.addMachine(1, 1, far, 0));
            Check.refused("addMachine far", room, Rooms.ARGUMENT, () -> room.addMachine(1, 1, 0, far));
        }
        for (int machine = 1; machine < 12; machine++) {
            Check.is("addMachine", room.addMachine(2, 50, 1, 2), machine);
        }
        Check.refused("a 13th machine", room, Rooms.STATE, () -> room.addMachine(1, 1, 0, 0));
        Check.refused("a 13th machine, too big", room, Rooms.ARGUMENT, () -> room.addMachine(5, 1, 0, 0));
    }

    private static void promise6() {
        RackMoves room = Rooms.withMachines(3);
        Check.is("addCable", room.addCable(2, 0, 20), 0);
        Check.is("addCable", room.addCable(0, 1, 1), 1);
        Check.is("cable(0, 0)", room.cable(0, 0), 2);
        Check.is("cable(0, 1)", room.cable(0, 1), 0);
        Check.is("cable(0, 2)", room.cable(0, 2), 20);
        Check.is("cable(1, 2)", room.cable(1, 2), 1);
        Check.is("undo addCable", room.undo(), 3);
        Check.is("cables", room.value(2), 1);
        room.move(0, 0);
        room.move(1, 0);
        Check.is("a cable that is too short", room.addCable(0, 1, 1), 1);
        Check.is("room not right", room.value(10), 6);
        for (int none : new int[] {-1, 3, Integer.MIN_VALUE, Integer.MAX_VALUE}) {
            Check.refused("addCable no one", room, Rooms.INDEX, () -> room.addCable(none, 0, 1));
            Check.refused("addCable no other", room, Rooms.INDEX, () -> room.addCable(0, none, 1));
            Check.refused("addCable both the same none", room, Rooms.INDEX, () -> room.addCable(none, none, 0));
        }
        Check.refused("addCable the same", room, Rooms.ARGUMENT, () -> room.addCable(1, 1, 5));
        for (int length : new int[] {0, 21, Integer.MIN_VALUE, Integer.MAX_VALUE}) {
            Check.refused("addCable no length", room, Rooms.ARGUMENT, () -> room.addCable(0, 1, length));
        }
        for (int cable = 2; cable < 10; cable++) {
            Check.is("addCable", room.addCable(0, 1, 5), cable);
        }
        Check.refused("an 11th cable", room, Rooms.STATE, () -> room.addCable(0, 1, 5));
        Check.refused("an 11th cable, too long", room, Rooms.ARGUMENT, () -> room.addCable(0, 1, 21));
        Check.refused("an 11th cable, the same", room, Rooms.ARGUMENT, () -> room.addCable(1, 1, 5));
        Check.refused("an 11th cable, no machine", room, Rooms.INDEX, () -> room.addCable(0, 3, 5));
    }

    private static void promise7() {
        RackMoves room = Rooms.withMachines(3);
        for (int cable = 0; cable < 10; cable++) {
            room.addCable(cable % 3, (cable + 1) % 3, cable + 1);
        }
        Check.is("removeCable in the middle", room.removeCable(4), 9);
        Check.is("the one ahead", room.cable(3, 2), 4);
        Check.is("the one behind", room.cable(4, 2), 6);
        Check.is("its machine", room.cable(4, 0), 2);
        Check.is("removeCable the last", room.removeCable(8), 8);
        Check.is("the last one then", room.cable(7, 2), 9);
        Check.is("removeCable the first", room.removeCable(0), 7);
        Check.is("the first one then", room.cable(0, 2), 2);
        Check.is("undo removeCable", room.undo(), 3);
        Check.is("cables", room.value(2), 8);
        Check.is("the first one again", room.cable(0, 2), 1);
        for (int none : new int[] {-1, 8, Integer.MIN_VALUE, Integer.MAX_VALUE}) {
            Check.refused("removeCable none", room, Rooms.INDEX, () -> room.removeCable(none));
        }
        for (int left = 7; left >= 0; left--) {
            Check.is("removeCable all", room.removeCable(0), left);
        }
        Check.refused("removeCable of none", room, Rooms.INDEX, () -> room.removeCable(0));
    }

    private static void promise8() {
        RackMoves room = Rooms.withMachines(1);
        room.addMachine(1, 1, 0, 3);
        Check.is("addFreeze", room.addFreeze(3, 2, 2), 0);
        Check.is("freezes", room.value(3), 1);
        int[] frozen = {0, 0, 1, 1, 0};
        for (int hour = 0; hour < frozen.length; hour++) {
            Rooms.passTo(room, hour);
            Check.is("frozen at " + hour, room.machine(1, 6), frozen[hour]);
            Check.is("the other team at " + hour, room.machine(0, 6), 0);
        }
        Check.is("addFreeze", room.addFreeze(0, 999, 99), 1);
        Check.is("undo addFreeze", room.undo(), 3);
        Check.is("freezes", room.value(3), 1);
        int[][] bad = {{-1, 0, 1}, {4, 0, 1}, {0, -1, 1}, {0, 1000, 1}, {0, 0, 0}, {0, 0, 100}};
        for (int[] one : bad) {
            Check.refused("addFreeze", room, Rooms.ARGUMENT, () -> room.addFreeze(one[0], one[1], one[2]));
        }
        for (int far : Rooms.FAR) {
            Check.refused("addFreeze far", room, Rooms.ARGUMENT, () -> room.addFreeze(far, 0, 1));
            Check.refused("addFreeze far", room, Rooms.ARGUMENT, () -> room.addFreeze(0, far, 1));
            Check.refused("addFreeze far", room, Rooms.ARGUMENT, () -> room.addFreeze(0, 0, far));
        }
        for (int freeze = 1; freeze < 6; freeze++) {
            Check.is("addFreeze", room.addFreeze(0, 999, 99), freeze);
        }
        Check.refused("a 7th freeze", room, Rooms.STATE, () -> room.addFreeze(0, 0, 1));
        Check.refused("a 7th freeze, no team", room, Rooms.ARGUMENT, () -> room.addFreeze(4, 0, 1));
        Rooms.passTo(room, 998);
        Check.is("ahead of the last first hour", room.machine(0, 6), 0);
        Rooms.passTo(room, 999);
        Check.is("at the last first hour", room.machine(0, 6), 1);
        Rooms.passTo(room, 1097);
        Check.is("at the last hour", room.machine(0, 6), 1);
        Rooms.passTo(room, 1098);
        Check.is("behind the last hour", room.machine(0, 6), 0);
    }

    private static void promise9() {
        RackMoves room = new RackMoves();
        for (int team = 0; team < 4; team++) {
            room.addMachine(1, 1, 0, team);
            room.addFreeze(team, 0, 99);
        }
        Check.is("removeFreeze", room.removeFreeze(1), 3);
        Check.is("team 0", room.machine(0, 6), 1);
        Check.is("team 1", room.machine(1, 6), 0);
        Check.is("removeFreeze: the next one has its number", room.removeFreeze(1), 2);
        Check.is("team 2", room.machine(2, 6), 0);
        Check.is("team 3", room.machine(3, 6), 1);
        Check.is("undo removeFreeze", room.undo(), 3);
        Check.is("team 2 again", room.machine(2, 6), 1);
        Check.is("freezes", room.value(3), 3);
        for (int none : new int[] {-1, 3, Integer.MIN_VALUE, Integer.MAX_VALUE}) {
            Check.refused("removeFreeze none", room, Rooms.INDEX, () -> room.removeFreeze(none));
        }
        Check.is("removeFreeze the last", room.removeFreeze(2), 2);
        Check.is("team 3", room.machine(3, 6), 0);
        Check.is("removeFreeze", room.removeFreeze(0), 1);
        Check.is("removeFreeze", room.removeFreeze(0), 0);
        Check.refused("removeFreeze of none", room, Rooms.INDEX, () -> room.removeFreeze(0));
    }

    private static void promise10() {
        RackMoves room = new RackMoves();
        Check.is("pass", room.pass(1), 1);
        Check.is("pass", room.pass(99), 100);
        Check.is("undo pass", room.undo(), 1);
        Check.is("hour", room.value(4), 1);
        for (int hours : new int[] {0, 100, -1, Integer.MIN_VALUE, Integer.MAX_VALUE}) {
            Check.refused("pass", room, Rooms.ARGUMENT, () -> room.pass(hours));
        }
        Rooms.passTo(room, 1999);
        Check.refused("pass to 2001", room, Rooms.STATE, () -> room.pass(2));
        Check.refused("pass 0 at 1999", room, Rooms.ARGUMENT, () -> room.pass(0));
        Check.refused("pass 100 at 1999", room, Rooms.ARGUMENT, () -> room.pass(100));
        Check.is("pass to 2000", room.pass(1), 2000);
        Check.refused("pass to 2001", room, Rooms.STATE, () -> room.pass(1));
        Check.is("hour", room.value(4), 2000);
    }

    private static void promise11() {
        RackMoves room = new RackMoves();
        room.addMachine(3, 40, 1, 2);
        room.addMachine(2, 5, 0, 1);
        room.addCable(0, 1, 20);
        room.addCable(1, 0, 20);
        room.addMachine(1, 1, 2, 0);
        room.addCable(2, 0, 20);
        room.move(1, 5);
        room.move(0, 5);
        room.addFreeze(2, 0, 1);
        int[] due = {3, 40, 1, 2, 5, 2, 1, 3};
        for (int what = 0; what < due.length; what++) {
            Check.is("machine(0, " + what + ")", room.machine(0, what), due[what]);
        }
        Check.is("cables of 1", room.machine(1, 7), 2);
        Check.is("cables of 2", room.machine(2, 7), 1);
        Check.is("rack of 2", room.machine(2, 4), RackMoves.NONE);
        Check.is("slot of 2", room.machine(2, 5), RackMoves.NONE);
        room.removeCable(0);
        Check.is("cables of 0 then", room.machine(0, 7), 2);
        for (int none : new int[] {-1, 3, 12, Integer.MIN_VALUE, Integer.MAX_VALUE}) {
            Check.refused("machine none", room, Rooms.INDEX, () -> room.machine(none, 0));
            Check.refused("machine none, what none", room, Rooms.INDEX, () -> room.machine(none, 8));
        }
        for (int what : new int[] {-1, 8, Integer.MIN_VALUE, Integer.MAX_VALUE}) {
            Check.refused("machine what", room, Rooms.ARGUMENT, () -> room.machine(0, what));
        }
    }

    private static void promise12() {
        RackMoves room = Rooms.withMachines(0);
        int[][] machines = {{4, 60, 0}, {3, 50, 1}, {2, 40, 2}, {1, 7, 2}};
        for (int[] one : machines) {
            room.addMachine(one[0], one[1], one[2], 0);
            room.move(room.value(0) - 1, 3);
        }
        room.setLimit(3, 160);
        int[] due = {160, 157, 60, 50, 47, 4, 0, 0};
        for (int what = 0; what < due.length; what++) {
            Check.is("rack(3, " + what + ")", room.rack(3, what), due[what]);
        }
        room.move(1, RackMoves.NONE);
        int[] then = {160, 107, 60, 0, 47, 3, 3, 3};
        for (int what = 0; what < then.length; what++) {
            Check.is("rack(3, " + what + ") then", room.rack(3, what), then[what]);
        }
        for (int none : new int[] {-1, 6, Integer.MIN_VALUE, Integer.MAX_VALUE}) {
            Check.refused("rack none", room, Rooms.INDEX, () -> room.rack(none, 0));
            Check.refused("rack none, what none", room, Rooms.INDEX, () -> room.rack(none, 8));
        }
        for (int what : new int[] {-1, 8, Integer.MIN_VALUE, Integer.MAX_VALUE}) {
            Check.refused("rack what", room, Rooms.ARGUMENT, () -> room.rack(0, what));
        }
    }

    /** Free slots that are not in a row do not add up. */
    private static void promise12GreatestSize() {
        RackMoves room = Rooms.withMachines(10);
        for (int machine = 0; machine < 10; machine++) {
            Check.is("greatest size", room.rack(0, 7), Math.min(4, 10 - machine));
            room.move(machine, 0);
        }
        Check.is("greatest size of a full rack", room.rack(0, 7), 0);
        room.move(1, RackMoves.NONE);
        room.move(3, RackMoves.NONE);
        Check.is("two free ones apart", room.rack(0, 7), 1);
        Check.is("free slots", room.rack(0, 6), 2);
        room.move(9, RackMoves.NONE);
        room.move(8, RackMoves.NONE);
        Check.is("two free ones at the end", room.rack(0, 7), 2);
        room.move(2, RackMoves.NONE);
        Check.is("three free ones in a row", room.rack(0, 7), 3);
        Check.is("free slots", room.rack(0, 6), 5);
    }

    private static void promise13() {
        RackMoves room = Rooms.withMachines(0);
        for (int size = 4; size > 0; size--) {
            room.addMachine(size, 1, 0, 0);
            room.move(4 - size, 5);
        }
        int[] due = {0, 0, 0, 0, 1, 1, 1, 2, 2, 3};
        for (int slot = 0; slot < 10; slot++) {
            Check.is("slot(5, " + slot + ")", room.slot(5, slot), due[slot]);
            Check.is("slot(4, " + slot + ")", room.slot(4, slot), RackMoves.NONE);
        }
        room.move(1, 0);
        Check.is("a slot that was left", room.slot(5, 4), RackMoves.NONE);
        Check.is("a slot that is taken then", room.slot(0, 2), 1);
        Check.is("a slot behind", room.slot(5, 7), 2);
        Check.is("a free slot just below a machine", room.slot(5, 6), RackMoves.NONE);
        for (int none : new int[] {-1, 6, Integer.MIN_VALUE, Integer.MAX_VALUE}) {
            Check.refused("slot no rack", room, Rooms.INDEX, () -> room.slot(none, 0));
        }
        for (int none : new int[] {-1, 10, Integer.MIN_VALUE, Integer.MAX_VALUE}) {
            Check.refused("slot no slot", room, Rooms.INDEX, () -> room.slot(0, none));
        }
    }

    private static void promise14() {
        RackMoves room = Rooms.withMachines(2);
        room.addCable(1, 0, 20);
        Check.is("coiled up, both in the store", room.cable(0, 3), 0);
        room.move(0, 0);
        Check.is("coiled up, one in the store", room.cable(0, 3), 0);
        for (int rack = 0; rack < 6; rack++) {
            Check.is("move", room.move(1, rack), 0);
            Check.is("needs in " + rack, room.cable(0, 3), 2 + 3 * rack);
        }
        room.move(0, RackMoves.NONE);
        Check.is("coiled up, the other in the store", room.cable(0, 3), 0);
        Check.is("one", room.cable(0, 0), 1);
        Check.is("other", room.cable(0, 1), 0);
        Check.is("length", room.cable(0, 2), 20);
        for (int none : new int[] {-1, 1, 10, Integer.MIN_VALUE, Integer.MAX_VALUE}) {
            Check.refused("cable none", room, Rooms.INDEX, () -> room.cable(none, 0));
            Check.refused("cable none, what none", room, Rooms.INDEX, () -> room.cable(none, 4));
        }
        for (int what : new int[] {-1, 4, Integer.MIN_VALUE, Integer.MAX_VALUE}) {
            Check.refused("cable what", room, Rooms.ARGUMENT, () -> room.cable(0, what));
        }
    }

    private static void promise15() {
        RackMoves room = Rooms.withMachines(4);
        room.addCable(0, 1, 20);
        room.addCable(2, 1, 20);
        room.addCable(2, 3, 20);
        room.addCable(0, 3, 20);
        room.move(0, 1);
        room.move(1, 4);
        room.move(2, 5);
        int[] due = {0, 1, 1, 1, 1};
        for (int tray = 0; tray < 5; tray++) {
            Check.is("tray(" + tray + ")", room.tray(tray), due[tray]);
        }
        room.move(3, 1);
        int[] then = {0, 2, 2, 2, 2};
        for (int tray = 0; tray < 5; tray++) {
            Check.is("tray(" + tray + ") then", room.tray(tray), then[tray]);
        }
        for (int none : new int[] {-1, 5, Integer.MIN_VALUE, Integer.MAX_VALUE}) {
            Check.refused("tray none", room, Rooms.INDEX, () -> room.tray(none));
        }
    }

    private static void promise16() {
        RackMoves room = new RackMoves();
        room.addMachine(1, 60, 0, 0);
        room.addMachine(1, 20, 1, 0);
        room.addMachine(1, 5, 2, 0);
        room.addMachine(1, 99, 2, 0);
        room.addCable(0, 1, 20);
        room.addCable(0, 2, 20);
        room.addFreeze(3, 0, 1);
        room.pass(7);
        room.move(0, 0);
        room.move(1, 2);
        room.move(2, 2);
        room.move(2, 1);
        room.backOut();
        int[] due = {4, 3, 2, 1, 7, 100, 60, 20, 5, 55, 0, 3, 4, 1};
        for (int what = 0; what < due.length; what++) {
            Check.is("value(" + what + ")", room.value(what), due[what]);
        }
        Check.is("undo", room.undo(), 3);
        Check.is("done", room.value(12), 4);
        Check.is("backed out", room.value(13), 0);
        for (int what : new int[] {-1, 14, Integer.MIN_VALUE, Integer.MAX_VALUE}) {
            Check.refused("value what", room, Rooms.ARGUMENT, () -> room.value(what));
        }
    }

    /** Of several things that are wrong, the first one is told; just at its bound, nothing is. */
    private static void promise16FirstWrong() {
        RackMoves room = new RackMoves();
        room.addMachine(1, 60, 0, 0);
        room.addMachine(1, 20, 1, 0);
        room.addCable(0, 1, 5);
        room.move(0, 4);
        room.move(1, 5);
        room.setLevel(60);
        room.setTray(4, 1);
        room.setLimit(4, 60);
        Check.is("right, just at the bounds", room.value(10), 0);
        room.setLevel(59);
        Check.is("the level", room.value(10), 7);
        room.addCable(0, 1, 4);
        room.setTray(4, 2);
        Check.is("a cable", room.value(10), 6);
        room.setTray(4, 1);
        Check.is("a tray", room.value(10), 5);
        room.setLimit(4, 59);
        Check.is("a limit", room.value(10), 4);
        room.removeCable(1);
        room.setLevel(60);
        Check.is("the limit alone", room.value(10), 4);
        room.setLimit(4, 60);
        Check.is("right again", room.value(10), 0);
        room.setLimit(5, 19);
        Check.is("the last rack", room.value(10), 4);
    }
}
