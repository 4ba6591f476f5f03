/** Promises 29 and 30: saved states, and the digest. */
public final class StateTest {
    public static void main(String[] args) {
        promise29();
        promise29Everything();
        promise29ReadsAreNotSaved();
        promise30();
        promise30Long();
        Check.end();
    }

    private static void promise29() {
        RackMoves room = new RackMoves();
        Check.refused("no saved state", room, Rooms.STATE, room::undo);
        for (int level = 1; level <= 7; level++) {
            room.setLevel(level);
        }
        for (int left = 3; left >= 0; left--) {
            Check.is("undo", room.undo(), left);
            Check.is("level", room.value(5), 3 + left);
        }
        Check.refused("the older ones are dropped", room, Rooms.STATE, room::undo);
        Check.is("level stays", room.value(5), 3);
        room.setLevel(8);
        room.setLevel(9);
        Check.is("undo", room.undo(), 1);
        room.setLevel(10);
        Check.is("undo", room.undo(), 1);
        Check.is("level", room.value(5), 8);
        Check.is("undo", room.undo(), 0);
        Check.is("level", room.value(5), 3);
    }

    private static void promise29Everything() {
        RackMoves room = Rooms.withMachines(2);
        room.addCable(0, 1, 20);
        room.addFreeze(3, 0, 9);
        room.move(0, 1);
        room.setLimit(2, 77);
        room.setTray(2, 7);
        long[] digests = new long[4];
        Check.Call[] calls = {() -> room.move(1, 2), () -> room.pass(5), () -> room.removeCable(0), room::backOut};
        Rooms.undoAll(room);
        for (int i = 0; i < calls.length; i++) {
            digests[i] = room.digest();
            calls[i].run();
        }
        room.append('h');
        for (int i = calls.length - 1; i >= 0; i--) {
            Check.is("undo", room.undo(), i);
            int length = room.clearText();
            Check.is("the text is not restored", length, i == 3 ? 1 : 0);
            Check.is("digest", room.digest(), digests[i]);
        }
        room.addFreeze(0, 0, 9);
        room.removeFreeze(room.value(3) - 1);
        room.addFreeze(1, 0, 9);
        room.undo();
        room.undo();
        Check.is("the freeze itself is restored", room.machine(0, 6), 1);
        room.setTray(0, 9);
        room.undo();
        Check.is("the trays are restored", room.setTray(0, 4), 4);
    }

    private static void promise29ReadsAreNotSaved() {
        RackMoves room = Rooms.withMachines(2);
        room.move(0, 0);
        Rooms.undoAll(room);
        room.addMachine(1, 1, 0, 0);
        room.value(10);
        room.machine(0, 0);
        room.rack(0, 0);
        room.slot(0, 0);
        room.tray(0);
        room.pile(0, 0);
        room.mayMove(0, 1);
        room.bestRack(0);
        room.bestChange();
        room.backable();
        room.taken();
        room.digest();
        room.append('h');
        room.clearText();
        Check.is("one saved state", Rooms.undoAll(room), 1);
    }

    private static void promise30() {
        int[] lengths = {0, 0, 2, 2};
        int[] savedStates = {0, 3, 4, 3};
        for (int stage = 0; stage < lengths.length; stage++) {
            RackMoves room = roomOfStage(stage);
            Check.is("digest of stage " + stage, room.digest(),
                digestByCalls(room, lengths[stage], savedStates[stage]));
            Check.is("the same twice", room.digest(), room.digest());
        }
    }

    private static RackMoves roomOfStage(int stage) {
        RackMoves room = new RackMoves();
        if (stage > 0) {
            room.addMachine(4, 60, 0, 0);
            room.addMachine(3, 50, 1, 1);
            room.addCable(0, 1, 8);
        }
        if (stage > 1) {
            room.move(0, 0);
            room.move(1, 2);
            room.append('m');
            room.append('0');
        }
        if (stage > 2) {
            room.undo();
        }
        return room;
    }

    private static void promise30Long() {
        RackMoves room = Rooms.withMachines(12);
        for (int machine = 0; machine < 12; machine++) {
            room.move(machine, machine % 6);
            room.addFreeze(machine % 4, machine, machine + 1);
            if (room.value(3) == 6) {
                room.removeFreeze(0);
            }
        }
        for (int cable = 0; cable < 10; cable++) {
            room.addCable(cable, cable + 1, 20);
        }
        for (int step = 0; step < 12; step++) {
            room.change(step, 1 + step % 2);
        }
        Check.is("digest of a full room", room.digest(), digestByCalls(room, 0, 4));
    }

    private static long digestByCalls(RackMoves room, int textLength, int savedStates) {
        long h = 31 * 3511L + textLength;
        for (int what = 0; what <= 13; what++) {
            h = 31 * h + room.value(what);
        }
        for (int rack = 0; rack < 6; rack++) {
            for (int what = 0; what <= 7; what++) {
                h = 31 * h + room.rack(rack, what);
            }
            for (int slot = 0; slot < 10; slot++) {
                h = 31 * h + room.slot(rack, slot);
            }
        }
        for (int tray = 0; tray < 5; tray++) {
            h = 31 * h + room.tray(tray);
        }
        for (int machine = 0; machine < room.value(0); machine++) {
            for (int what = 0; what <= 7; what++) {
                h = 31 * h + room.machine(machine, what);
            }
        }
        for (int cable = 0; cable < room.value(2); cable++) {
            for (int what = 0; what <= 3; what++) {
                h = 31 * h + room.cable(cable, what);
            }
        }
        for (int index = 0; index < room.value(11); index++) {
            for (int what = 0; what <= 3; what++) {
                h = 31 * h + room.pile(index, what);
            }
        }
        return 31 * h + savedStates;
    }
}
