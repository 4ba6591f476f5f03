/** Promises 26 to 28: the plan text, its syntax, and plans that are done as a whole or not at all. */
public final class PlanTest {
    public static void main(String[] args) {
        promise26();
        promise27();
        promise28Syntax();
        promise28Numbers();
        promise28Done();
        promise28Impossible();
        promise28Hours();
        promise28Undo();
        Check.end();
    }

    private static void promise26() {
        RackMoves room = new RackMoves();
        for (int value : new int[] {-1, 128, Integer.MIN_VALUE, Integer.MAX_VALUE}) {
            Check.refused("append", room, Rooms.ARGUMENT, () -> room.append(value));
        }
        Check.is("append 0", room.append(0), 1);
        Check.is("append 127", room.append(127), 2);
        for (int length = 3; length <= 90; length++) {
            Check.is("append", room.append('h'), length);
        }
        Check.refused("a 91st byte", room, Rooms.STATE, () -> room.append('h'));
        Check.refused("a 91st byte, no byte", room, Rooms.ARGUMENT, () -> room.append(128));
        Check.refused("append is not undoable", room, Rooms.STATE, room::undo);
        Check.is("length", room.clearText(), 90);
        Check.is("append again", room.append('h'), 1);
        Check.is("the bytes before are gone", room.plan(), -10 - 1);
    }

    private static void promise27() {
        RackMoves room = new RackMoves();
        Check.is("empty", room.clearText(), 0);
        Rooms.put(room, "h;h");
        Check.is("three", room.clearText(), 3);
        Check.is("then empty", room.clearText(), 0);
        Check.refused("clearText is not undoable", room, Rooms.STATE, room::undo);
        Check.is("no steps", room.plan(), 0);
    }

    private static void promise28Syntax() {
        RackMoves room = Rooms.withMachines(12);
        String[] ofLength = {"h", "m", "p", "m0", "m00", "m11", "p11", "m0>", "p0>", "m0>0", "m0>s", "p0>2", "h;m0>5;p",
            "h;h"};
        for (String text : ofLength) {
            error(room, text, text.length());
        }
        error(room, "x", 0);
        error(room, ";", 0);
        error(room, " h;", 0);
        error(room, "H;", 0);
        error(room, "0", 0);
        error(room, "hh", 1);
        error(room, "h ;", 1);
        error(room, "h;;", 2);
        error(room, "h;x", 2);
        error(room, "m>", 1);
        error(room, "ms", 1);
        error(room, "m-1>0;", 1);
        error(room, "m0;", 2);
        error(room, "m0x", 2);
        error(room, "m01x", 3);
        error(room, "m0>6;", 3);
        error(room, "m0>9;", 3);
        error(room, "m0>S;", 3);
        error(room, "m0>;", 3);
        error(room, "m0>00;", 4);
        error(room, "m0>ss", 4);
        error(room, "p0>s;", 3);
        error(room, "p0>3;", 3);
        error(room, "p0>/;", 3);
        error(room, "p0>12;", 4);
        error(room, "m0>0,", 4);
        error(room, "m0>0;p1>1;q", 10);
        error(room, "m0>0;\0", 5);
        error(room, "m0>0;\177", 5);
    }

    private static void promise28Numbers() {
        RackMoves room = Rooms.withMachines(11);
        error(room, "m11>0;", 1);
        error(room, "m11", 1);
        error(room, "m11x", 1);
        error(room, "m11\0", 1);
        error(room, "p99;", 1);
        error(room, "h;m99", 3);
        error(room, "m0>0;p11>9", 6);
        error(room, "m110", 3);
        error(room, "m999", 3);
        error(room, "m010", 3);
        error(room, "m000>0;", 3);
        error(room, "m10>", 4);
        error(room, "m010>0;", 3);
        Check.is("a zero in front", Rooms.plan(room, "m09>0;m9>1;m00>2;m10>s;"), -1000 - 30 - 2);
        RackMoves few = Rooms.withMachines(1);
        error(few, "m1", 1);
        error(few, "m1>", 1);
        error(few, "m1x", 1);
        error(few, "m01>0;", 1);
        error(few, "m10>0;", 1);
        Check.is("m00", Rooms.plan(few, "m00>0;"), 1);
        error(new RackMoves(), "m0>0;", 1);
        error(new RackMoves(), "h;p0", 3);
    }

    /** A syntax error is told ahead of all else, and changes nothing. */
    private static void error(RackMoves room, String text, int position) {
        Rooms.put(room, text);
        long before = room.digest();
        Check.is("plan of " + text, room.plan(), -10 - position);
        Check.is("digest behind plan of " + text, room.digest(), before);
    }

    private static void promise28Done() {
        RackMoves room = Rooms.withMachines(3);
        Check.is("no steps", Rooms.plan(room, ""), 0);
        Check.is("plan", Rooms.plan(room, "m0>5;m01>5;h;p1>2;m1>0;m0>s;m2>3;h;"), 6);
        Check.is("rack of 0", room.machine(0, 4), RackMoves.NONE);
        Check.is("rack of 1", room.machine(1, 4), 0);
        Check.is("phase of 1", room.machine(1, 2), 2);
        Check.is("rack of 2", room.machine(2, 4), 3);
        Check.is("hour", room.value(4), 2);
        Check.is("on the pile", room.value(11), 6);
        Check.is("done", room.value(12), 6);
        Check.is("latest machine", room.pile(0, 0), 2);
        Check.is("slot before", room.pile(2, 2), 1);
        Check.is("the text stays", room.clearText(), 35);
        String moves = "m0>0;m0>1;m0>2;m0>3;m0>4;m0>5;m0>4;m0>3;m0>2;m0>1;m0>0;m0>1;m0>2;m0>3;m0>4;m0>5;m0>4;m0>3;";
        Check.is("18 steps", Rooms.plan(room, moves), 18);
        Check.is("on the pile", room.value(11), 20);
        Check.is("done", room.value(12), 24);
        Check.is("the oldest ones went", room.pile(19, 0), 0);
        Check.is("its rack before", room.pile(19, 1), 5);
    }

    private static void promise28Impossible() {
        RackMoves room = Rooms.withMachines(2);
        room.addMachine(4, 99, 1, 1);
        room.setLimit(4, 98);
        room.addFreeze(1, 1, 1);
        room.addCable(0, 1, 2);
        impossible(room, "m0>s;", 0, 2);
        impossible(room, "m0>0;m0>0;", 1, 2);
        impossible(room, "p0>0;", 0, 2);
        impossible(room, "h;m0>0;h;p0>1;m0>s;m0>s;", 3, 2);
        impossible(room, "m0>0;h;m2>0;", 1, 1);
        Check.is("h ends the freeze", room.mayMove(2, 0), 0);
        impossible(room, "h;p2>0;", 0, 1);
        impossible(room, "m0>0;p0>2;m2>4;", 2, 4);
        impossible(room, "m0>0;m1>1;", 1, 6);
        room.setTray(0, 0);
        impossible(room, "m0>0;m1>1;", 1, 5);
        room.setLevel(50);
        impossible(room, "m0>0;m1>0;m2>1;", 2, 7);
        room.setLevel(500);
        room.addMachine(4, 1, 0, 0);
        room.addMachine(4, 1, 0, 0);
        impossible(room, "m2>0;m3>0;m4>0;", 2, 3);
        Check.is("possible at last", Rooms.plan(room, "m2>0;m3>0;m4>1;"), 3);
        impossible(room, "m0>1;m0>2;m0>1;m0>2;m0>1;m0>2;m0>1;m0>2;m0>1;m0>2;m0>1;m0>1;", 11, 2);
    }

    private static void impossible(RackMoves room, String text, int number, int why) {
        Rooms.put(room, text);
        long before = room.digest();
        Check.is("plan of " + text, room.plan(), -1000 - 10 * number - why);
        Check.is("digest behind plan of " + text, room.digest(), before);
    }

    private static void promise28Hours() {
        RackMoves room = Rooms.withMachines(1);
        Rooms.passTo(room, 1998);
        Check.is("too late", Rooms.plan(room, "h;h;h;"), -9999);
        Check.is("hour", room.value(4), 1998);
        Check.is("too late, ahead of what is impossible", Rooms.plan(room, "h;h;h;m0>s;"), -9999);
        Check.is("impossible, ahead of what is too late", Rooms.plan(room, "h;h;m0>s;h;"), -1002);
        Check.is("a step, then too late", Rooms.plan(room, "m0>0;h;h;h;"), -9999);
        Check.is("nothing is changed", room.machine(0, 4), RackMoves.NONE);
        Check.is("a syntax error ahead of both", Rooms.plan(room, "h;h;h;m0>s;x"), -10 - 11);
        Check.is("just 2000", Rooms.plan(room, "h;m0>0;h;"), 1);
        Check.is("hour", room.value(4), 2000);
        Check.is("too late", Rooms.plan(room, "h;"), -9999);
        RackMoves full = new RackMoves();
        Check.is("90 bytes", Rooms.plan(full, "h;".repeat(45)), 0);
        Check.is("hour", full.value(4), 45);
    }

    /** One saved state a plan that is done, none for one that is not. */
    private static void promise28Undo() {
        RackMoves room = Rooms.withMachines(1);
        Rooms.undoAll(room);
        room.addMachine(1, 1, 0, 0);
        Rooms.undoAll(room);
        room.addMachine(1, 1, 0, 0);
        room.addMachine(1, 1, 0, 0);
        long before = room.digest();
        Check.is("plan", Rooms.plan(room, "m0>0;h;p0>2;m1>1;"), 3);
        Check.is("undo", room.undo(), 2);
        Check.is("the text stays behind undo", room.clearText(), 17);
        Check.is("all is as before", room.digest(), before);
        Check.is("syntax", Rooms.plan(room, "m0>0"), -14);
        Check.is("impossible", Rooms.plan(room, "m0>s;"), -1002);
        Check.is("nothing was saved", room.undo(), 1);
        Check.is("undo", room.undo(), 0);
        Check.is("a plan without steps is done too", Rooms.plan(room, ""), 0);
        Check.is("its state is saved", Rooms.undoAll(room), 1);
        Check.is("and one of hours", Rooms.plan(room, "h;h;"), 0);
        Check.is("is one saved state", room.undo(), 0);
        Check.is("hour", room.value(4), 0);
    }
}
