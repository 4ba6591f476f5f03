/** Promises 17 to 20: steps, done and backed out. */
public final class StepsTest {
    public static void main(String[] args) {
        promise17();
        promise17Slots();
        promise17Reasons();
        promise17OfSeveralTheFirst();
        promise17UntouchedIsWrong();
        promise18();
        promise18Reasons();
        promise19();
        promise19Reasons();
        promise20();
        Check.end();
    }

    private static void promise17() {
        RackMoves room = Rooms.withMachines(2);
        Rooms.undoAll(room);
        room.setLevel(500);
        room.addMachine(2, 9, 1, 3);
        Check.is("to a rack", room.move(0, 5), 0);
        Check.is("its rack", room.machine(0, 4), 5);
        Check.is("its slot", room.machine(0, 5), 0);
        Check.is("there already", room.move(0, 5), 2);
        Check.is("to another", room.move(0, 0), 0);
        Check.is("to the store", room.move(0, RackMoves.NONE), 0);
        Check.is("its rack", room.machine(0, 4), RackMoves.NONE);
        Check.is("its slot", room.machine(0, 5), RackMoves.NONE);
        Check.is("its phase", room.machine(0, 2), 1);
        Check.is("no load", room.value(7), 0);
        Check.is("in the store already", room.move(0, RackMoves.NONE), 2);
        Check.is("steps done", room.value(12), 3);
        Check.is("undo", room.undo(), 3);
        Check.is("its rack again", room.machine(0, 4), 0);
        Check.is("steps done again", room.value(12), 2);
        Check.is("on the pile again", room.value(11), 2);
        Check.is("undo", room.undo(), 2);
        Check.is("what is not done is not saved", room.move(0, 5), 2);
        Check.is("undo", room.undo(), 1);
        for (int none : new int[] {-1, 1, 12, Integer.MIN_VALUE, Integer.MAX_VALUE}) {
            Check.refused("move none", room, Rooms.INDEX, () -> room.move(none, 0));
            Check.refused("move none, no rack", room, Rooms.INDEX, () -> room.move(none, 6));
        }
        for (int none : new int[] {-2, 6, Integer.MIN_VALUE, Integer.MAX_VALUE}) {
            Check.refused("move no rack", room, Rooms.ARGUMENT, () -> room.move(0, none));
        }
    }

    /** The lowest slots that are free, in a row, even if a gap that is too small lies lower. */
    private static void promise17Slots() {
        RackMoves room = Rooms.withMachines(10);
        room.addMachine(2, 1, 0, 0);
        room.addMachine(3, 1, 0, 0);
        for (int machine = 0; machine < 10; machine++) {
            room.move(machine, 2);
        }
        Check.is("a full rack", room.move(10, 2), 3);
        room.move(1, 0);
        room.move(4, 0);
        Check.is("two gaps of one", room.move(10, 2), 3);
        room.move(8, 0);
        room.move(9, 0);
        Check.is("the end of the rack", room.move(10, 2), 0);
        Check.is("its slot", room.machine(10, 5), 8);
        room.move(10, 3);
        room.move(5, 0);
        Check.is("a gap that fits, below the end", room.move(10, 2), 0);
        Check.is("its slot", room.machine(10, 5), 4);
        Check.is("a gap of two at the end is too small", room.move(11, 2), 3);
        Check.is("one goes into the lowest gap", room.move(9, 2), 0);
        Check.is("its slot", room.machine(9, 5), 1);
        Check.is("nobody else moved", room.machine(6, 5), 6);
    }

    private static void promise17Reasons() {
        RackMoves room = new RackMoves();
        room.addMachine(1, 60, 0, 0);
        room.addMachine(1, 60, 1, 1);
        room.addCable(0, 1, 8);
        room.move(0, 0);
        room.setLimit(0, 119);
        Check.is("over the limit", room.move(1, 0), 4);
        room.setLimit(0, 120);
        Check.is("just the limit", room.move(1, 0), 0);
        room.setTray(1, 0);
        Check.is("a tray", room.move(1, 2), 5);
        room.setTray(1, 1);
        Check.is("a tray with room for it", room.move(1, 2), 0);
        Check.is("a cable that is too short", room.move(1, 3), 6);
        room.setLevel(59);
        Check.is("the level", room.move(1, RackMoves.NONE), 7);
        room.setLevel(60);
        Check.is("just the level", room.move(1, RackMoves.NONE), 0);
        room.addFreeze(1, 1, 1);
        Check.is("ahead of the freeze", room.mayMove(1, 0), 0);
        room.pass(1);
        Check.is("a freeze", room.move(1, 0), 1);
        Check.is("another team's", room.move(0, 1), 0);
        room.pass(1);
        Check.is("behind the freeze", room.move(1, 0), 0);
    }

    private static void promise17OfSeveralTheFirst() {
        RackMoves room = Rooms.withMachines(10);
        room.addMachine(4, 99, 1, 1);
        for (int machine = 0; machine < 10; machine++) {
            room.move(machine, 0);
        }
        room.addCable(0, 10, 1);
        room.addFreeze(1, 0, 1);
        room.setTray(0, 0);
        room.setLevel(10);
        room.setLimit(1, 0);
        Check.is("1 ahead of 2", room.move(10, RackMoves.NONE), 1);
        Check.is("1 ahead of 3", room.move(10, 0), 1);
        room.pass(1);
        Check.is("2 ahead of 4", room.setLimit(0, 9) == 200 ? room.move(10, RackMoves.NONE) : -1, 2);
        Check.is("3 ahead of 4", room.move(10, 0), 3);
        room.setLimit(0, 10);
        Check.is("4 ahead of 5", room.move(10, 1), 4);
        room.setLimit(1, 99);
        Check.is("5 ahead of 6", room.move(10, 1), 5);
        room.setTray(0, 1);
        Check.is("6 ahead of 7", room.move(10, 1), 6);
        room.removeCable(0);
        Check.is("7", room.move(10, 1), 7);
        room.setLevel(99);
        Check.is("nothing", room.move(10, 1), 0);
    }

    /** All of the room has to be right behind a step, also what it does not touch. */
    private static void promise17UntouchedIsWrong() {
        RackMoves room = Rooms.withMachines(3);
        room.move(0, 0);
        room.setLimit(0, 0);
        Check.is("a rack that is not touched", room.move(1, 1), 4);
        Check.is("nor does a change", room.change(1, 1), 4);
        Check.is("a step that mends it", room.move(0, 1), 0);
        Check.is("then", room.move(1, 1), 0);
        room.addCable(0, 1, 1);
        Check.is("a cable that is not touched", room.move(2, 3), 6);
        Check.is("a step that mends it", room.move(1, RackMoves.NONE), 0);
    }

    private static void promise18() {
        RackMoves room = new RackMoves();
        room.addMachine(1, 30, 0, 0);
        room.addMachine(1, 20, 2, 0);
        room.move(0, 4);
        Check.is("change", room.change(0, 2), 0);
        Check.is("its phase", room.machine(0, 2), 2);
        Check.is("its rack", room.machine(0, 4), 4);
        Check.is("its slot", room.machine(0, 5), 0);
        Check.is("load of 0", room.value(6), 0);
        Check.is("load of 2", room.value(8), 30);
        Check.is("in the store too", room.change(1, 0), 0);
        Check.is("its phase", room.machine(1, 2), 0);
        Check.is("no load", room.value(6), 0);
        Check.is("steps done", room.value(12), 3);
        Check.is("has it already", room.change(1, 0), 2);
        Check.is("undo", room.undo(), 3);
        Check.is("its phase again", room.machine(1, 2), 2);
        Rooms.undoAll(room);
        Check.is("has it already", room.change(0, room.machine(0, 2)), 2);
        Check.is("what is not done is not saved", Rooms.undoAll(room), 0);
        for (int none : new int[] {-1, 2, 12, Integer.MIN_VALUE, Integer.MAX_VALUE}) {
            Check.refused("change none", room, Rooms.INDEX, () -> room.change(none, 0));
            Check.refused("change none, no phase", room, Rooms.INDEX, () -> room.change(none, 3));
        }
        for (int none : new int[] {-1, 3, Integer.MIN_VALUE, Integer.MAX_VALUE}) {
            Check.refused("change no phase", room, Rooms.ARGUMENT, () -> room.change(0, none));
        }
    }

    private static void promise18Reasons() {
        RackMoves room = new RackMoves();
        room.addMachine(1, 30, 0, 0);
        room.addMachine(1, 20, 1, 0);
        room.move(0, 0);
        room.move(1, 1);
        room.setLevel(30);
        Check.is("the level", room.change(1, 0), 7);
        Check.is("the level is kept", room.change(1, 2), 0);
        room.addFreeze(0, 0, 1);
        Check.is("1 ahead of 2", room.change(1, 2), 1);
        room.pass(1);
        room.setLimit(1, 19);
        Check.is("2 ahead of 4", room.change(1, 2), 2);
        Check.is("a limit", room.change(1, 1), 4);
        room.setLimit(1, 20);
        room.addCable(0, 1, 4);
        Check.is("a cable", room.change(1, 1), 6);
        room.setTray(0, 0);
        Check.is("a tray", room.change(1, 1), 5);
        room.removeCable(0);
        Check.is("nothing", room.change(1, 1), 0);
    }

    private static void promise19() {
        RackMoves room = Rooms.withMachines(2);
        room.addMachine(3, 1, 0, 0);
        Check.is("no step", room.backOut(), 2);
        room.move(0, 1);
        room.move(1, 1);
        room.move(2, 1);
        room.move(0, 2);
        room.change(2, 2);
        room.move(2, 2);
        Check.is("a move to a rack", room.backOut(), 0);
        Check.is("rack before", room.machine(2, 4), 1);
        Check.is("slot before", room.machine(2, 5), 2);
        Check.is("phase stays", room.machine(2, 2), 2);
        Check.is("a change", room.backOut(), 0);
        Check.is("phase before", room.machine(2, 2), 0);
        Check.is("rack stays", room.machine(2, 4), 1);
        Check.is("a move away from slot 0", room.backOut(), 0);
        Check.is("slot before", room.machine(0, 5), 0);
        Check.is("a move from the store", room.backOut(), 0);
        Check.is("in the store", room.machine(2, 4), RackMoves.NONE);
        Check.is("no slot", room.machine(2, 5), RackMoves.NONE);
        Check.is("steps on the pile", room.value(11), 2);
        Check.is("steps done", room.value(12), 6);
        Check.is("backed out", room.value(13), 4);
        Check.is("undo", room.undo(), 3);
        Check.is("steps on the pile again", room.value(11), 3);
        Check.is("backed out again", room.value(13), 3);
        Check.is("in the rack again", room.machine(2, 4), 1);
        Rooms.undoAll(room);
        Check.is("what is not done is not saved", new RackMoves().backOut(), 2);
        RackMoves empty = new RackMoves();
        empty.backOut();
        Check.is("nothing saved", Rooms.undoAll(empty), 0);
    }

    private static void promise19Reasons() {
        RackMoves room = new RackMoves();
        room.addMachine(1, 30, 0, 0);
        room.addMachine(1, 20, 1, 1);
        room.addCable(0, 1, 5);
        room.move(1, 0);
        room.move(0, 0);
        room.move(0, 1);
        room.setLimit(0, 49);
        Check.is("a limit", room.backOut(), 4);
        room.setLimit(0, 50);
        room.addFreeze(0, 1, 1);
        room.pass(1);
        Check.is("a freeze", room.backOut(), 1);
        room.pass(1);
        Check.is("behind the freeze", room.backOut(), 0);
        room.setLevel(19);
        Check.is("the level", room.backOut(), 7);
        Check.is("nothing is changed", room.value(11), 2);
        room.setLevel(500);
        room.addCable(0, 1, 1);
        room.move(1, RackMoves.NONE);
        Check.is("a cable", room.backOut(), 6);
        room.removeCable(1);
        room.removeCable(0);
        Check.is("nothing", room.backOut(), 0);
        room.move(1, 2);
        room.move(1, RackMoves.NONE);
        room.addCable(0, 1, 20);
        room.setTray(1, 0);
        Check.is("a tray", room.backOut(), 5);
        room.setTray(1, 1);
        room.addFreeze(0, 0, 99);
        Check.is("another team's freeze", room.backOut(), 0);
    }

    private static void promise20() {
        RackMoves room = Rooms.withMachines(2);
        Check.is("no steps", room.pile(0, 0), RackMoves.NONE);
        room.move(0, 3);
        room.move(1, 3);
        room.change(1, 2);
        room.move(1, 4);
        int[][] due = {{1, 3, 1, 2}, {1, 3, 1, 0}, {1, -1, -1, 0}, {0, -1, -1, 0}, {-1, -1, -1, -1}};
        for (int index = 0; index < due.length; index++) {
            for (int what = 0; what < 4; what++) {
                Check.is("pile(" + index + ", " + what + ")", room.pile(index, what), due[index][what]);
            }
        }
        Check.is("far behind", room.pile(Integer.MAX_VALUE, 3), RackMoves.NONE);
        Check.refused("pile(-1, 0)", room, Rooms.INDEX, () -> room.pile(-1, 0));
        Check.refused("pile(-1, 4)", room, Rooms.INDEX, () -> room.pile(-1, 4));
        Check.refused("pile(min, 0)", room, Rooms.INDEX, () -> room.pile(Integer.MIN_VALUE, 0));
        for (int what : new int[] {-1, 4, Integer.MIN_VALUE, Integer.MAX_VALUE}) {
            Check.refused("pile what", room, Rooms.ARGUMENT, () -> room.pile(0, what));
            Check.refused("pile what, not so many", room, Rooms.ARGUMENT, () -> room.pile(99, what));
        }
        for (int step = 0; step < 17; step++) {
            room.move(0, step % 3);
        }
        Check.is("at most 20", room.value(11), 20);
        Check.is("all are counted", room.value(12), 21);
        Check.is("the oldest one went", room.pile(19, 0), 1);
        Check.is("its rack before", room.pile(19, 1), RackMoves.NONE);
        Check.is("no 21st", room.pile(20, 0), RackMoves.NONE);
        for (int step = 0; step < 20; step++) {
            Check.is("backOut", room.backOut(), 0);
        }
        Check.is("no more", room.backOut(), 2);
        Check.is("the step that went stays done", room.machine(0, 4), 3);
    }
}
