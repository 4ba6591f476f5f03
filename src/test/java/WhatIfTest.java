/** Promises 21 to 25: what-if questions. They change nothing. */
public final class WhatIfTest {
    public static void main(String[] args) {
        promise21();
        promise22();
        promise22Fullest();
        promise23();
        promise23Possible();
        promise24();
        promise25();
        Check.end();
    }

    private static void promise21() {
        RackMoves room = new RackMoves();
        room.addMachine(4, 60, 0, 0);
        room.addMachine(4, 50, 1, 1);
        room.addMachine(4, 40, 2, 2);
        room.addCable(0, 1, 5);
        for (int rack = 0; rack < 6; rack++) {
            Check.is("possible in " + rack, room.mayMove(0, rack), 0);
        }
        Check.is("in the store already", room.mayMove(0, RackMoves.NONE), 2);
        room.move(0, 0);
        room.move(1, 0);
        long before = room.digest();
        Check.is("no slots", room.mayMove(2, 0), 3);
        Check.is("there already", room.mayMove(1, 0), 2);
        Check.is("possible", room.mayMove(1, 1), 0);
        Check.is("a cable", room.mayMove(1, 2), 6);
        Check.is("possible", room.mayMove(1, RackMoves.NONE), 0);
        Check.is("nothing is changed", room.digest(), before);
        room.setLevel(59);
        Check.is("the level", room.mayMove(1, RackMoves.NONE), 7);
        room.setLimit(1, 49);
        Check.is("a limit", room.mayMove(1, 1), 4);
        room.setTray(0, 0);
        Check.is("a tray", room.mayMove(0, 1), 4);
        room.setLimit(1, 60);
        Check.is("a tray", room.mayMove(0, 1), 5);
        room.addFreeze(0, 0, 1);
        Check.is("a freeze", room.mayMove(0, 1), 1);
        for (int none : new int[] {-1, 3, 12, Integer.MIN_VALUE, Integer.MAX_VALUE}) {
            Check.refused("mayMove none", room, Rooms.INDEX, () -> room.mayMove(none, 0));
            Check.refused("mayMove none, no rack", room, Rooms.INDEX, () -> room.mayMove(none, 6));
        }
        for (int none : new int[] {-2, 6, Integer.MIN_VALUE, Integer.MAX_VALUE}) {
            Check.refused("mayMove no rack", room, Rooms.ARGUMENT, () -> room.mayMove(0, none));
        }
    }

    private static void promise22() {
        RackMoves room = Rooms.withMachines(0);
        for (int rack = 0; rack < 6; rack++) {
            room.addMachine(1, 60 - 10 * rack, 0, 0);
            room.move(rack, rack);
        }
        room.addMachine(1, 30, 0, 1);
        Check.is("of several the lowest", room.bestRack(6), 3);
        room.move(0, RackMoves.NONE);
        Check.is("the first rack too", room.bestRack(6), 0);
        room.move(0, 0);
        room.addMachine(1, 50, 0, 1);
        Check.is("the emptiest", room.bestRack(7), 5);
        room.setLimit(5, 59);
        Check.is("not over its limit", room.bestRack(7), 4);
        long before = room.digest();
        Check.is("not where it is", room.bestRack(5), 1);
        Check.is("nothing is changed", room.digest(), before);
        room.addFreeze(1, 0, 1);
        Check.is("a freeze", room.bestRack(7), RackMoves.NONE);
        room.setLevel(0);
        Check.is("not level anywhere", room.bestRack(0), RackMoves.NONE);
        for (int none : new int[] {-1, 8, 12, Integer.MIN_VALUE, Integer.MAX_VALUE}) {
            Check.refused("bestRack none", room, Rooms.INDEX, () -> room.bestRack(none));
        }
    }

    /** The machine's load leaves its own rack, which may be the fullest one. */
    private static void promise22Fullest() {
        RackMoves room = Rooms.withMachines(0);
        room.addMachine(1, 80, 0, 0);
        room.addMachine(1, 20, 0, 0);
        room.addMachine(1, 70, 0, 0);
        room.move(0, 0);
        room.move(1, 0);
        room.move(2, 1);
        Check.is("an empty rack", room.bestRack(0), 2);
        Check.is("all but rack 1 are the same", room.bestRack(1), 2);
        Check.is("the store is none", room.bestRack(2), 2);
        for (int rack = 2; rack < 6; rack++) {
            room.setLimit(rack, 0);
        }
        Check.is("the one that is left", room.bestRack(1), 1);
        room.setLimit(1, 89);
        Check.is("none is left", room.bestRack(1), RackMoves.NONE);
    }

    private static void promise23() {
        RackMoves room = Rooms.withMachines(0);
        Check.is("no machines", room.bestChange(), RackMoves.NONE);
        room.addMachine(1, 10, 0, 0);
        Check.is("none stands", room.bestChange(), RackMoves.NONE);
        room.move(0, 0);
        Check.is("a single one makes nothing smaller", room.bestChange(), RackMoves.NONE);
        room.addMachine(1, 10, 0, 0);
        room.addMachine(1, 10, 0, 0);
        room.move(1, 0);
        room.move(2, 0);
        Check.is("of several the lowest number", room.bestChange(), 1);
        room.change(0, 1);
        long before = room.digest();
        Check.is("all three phases are level then", room.bestChange(), 3 + 2);
        Check.is("nothing is changed", room.digest(), before);
        room.change(1, 2);
        Check.is("none is better than level", room.bestChange(), RackMoves.NONE);
        room.addMachine(1, 40, 2, 0);
        room.move(3, 1);
        Check.is("the difference is 40, 30 or 10", room.value(9), 40);
        Check.is("the small one leaves the full phase", room.bestChange(), 3);
    }

    private static void promise23Possible() {
        RackMoves room = Rooms.withMachines(0);
        room.addMachine(1, 30, 0, 0);
        room.addMachine(1, 20, 0, 1);
        room.addMachine(1, 10, 1, 2);
        room.move(0, 0);
        room.move(1, 0);
        room.move(2, 0);
        Check.is("the greatest difference 20", room.bestChange(), 2);
        room.addFreeze(0, 0, 1);
        Check.is("a freeze", room.bestChange(), 3 + 2);
        room.setLevel(20);
        Check.is("just the level", room.bestChange(), 3 + 2);
        room.setLevel(19);
        Check.is("the level", room.bestChange(), RackMoves.NONE);
        room.setLevel(500);
        room.setLimit(0, 59);
        Check.is("a limit", room.bestChange(), RackMoves.NONE);
        room.setLimit(0, 60);
        room.addFreeze(1, 0, 1);
        Check.is("the rest makes nothing smaller", room.bestChange(), RackMoves.NONE);
    }

    private static void promise24() {
        RackMoves room = Rooms.withMachines(2);
        room.addMachine(1, 30, 0, 1);
        Check.is("no steps", room.backable(), 0);
        room.move(0, 0);
        room.move(2, 0);
        room.move(1, 0);
        room.change(1, 2);
        long before = room.digest();
        Check.is("all", room.backable(), 4);
        Check.is("nothing is changed", room.digest(), before);
        room.addFreeze(1, 0, 1);
        Check.is("up to the frozen one", room.backable(), 2);
        room.pass(1);
        Check.is("behind the freeze", room.backable(), 4);
        room.setLevel(31);
        Check.is("not level behind the first", room.backable(), 0);
        room.setLevel(32);
        Check.is("just level", room.backable(), 4);
        room.setLimit(0, 31);
        Check.is("the first must make it right", room.backable(), 0);
        for (int step = 0; step < 30; step++) {
            room.setLimit(0, 200);
            room.move(0, 1 + step % 2);
        }
        Check.is("at most 20", room.backable(), 20);
    }

    private static void promise25() {
        RackMoves room = Rooms.withMachines(0);
        Check.isDouble("none", room.taken(), 0.0);
        int slots = 0;
        for (int machine = 0; machine < 12; machine++) {
            room.addMachine(machine % 4 + 1, 1, 0, 0);
            room.move(machine, machine % 6);
            slots += machine % 4 + 1;
            Check.isDouble("taken", room.taken(), slots / 60.0);
        }
        room.move(11, RackMoves.NONE);
        Check.isDouble("one less", room.taken(), 26 / 60.0);
    }
}
