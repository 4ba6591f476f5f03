import java.math.BigInteger;

/** Promises 26 to 30, plans, undo and digest: each sentence by a test of its own. */
public final class EdgesOfPlansTest {
    private static final int NONE = RackMoves.NONE;

    public static void main(String[] args) {
        Sentences.run(EdgesOfPlansTest.class);
    }

    // Promise 26: append.

    @Says(promise = 26, value = "Appends a byte to the plan text.")
    private static void appendsAByte() {
        RackMoves room = Rooms.withMachines(1);
        int[] due = {-11, -12, -13, -14, 1};
        for (int i = 0; i < due.length; i++) {
            room.append("m0>4;".charAt(i));
            Check.is("plan behind " + (i + 1), room.plan(), due[i]);
        }
        Check.is("rack", room.machine(0, 4), 4);
        room.append('h');
        Check.is("behind a plan that is done", room.plan(), -16);
        room.clearText();
        room.append('h');
        Check.is("behind clearText", room.plan(), -11);
    }

    @Says(promise = 26, value = {"`value`: the byte, 0 to 127",
        "Throws `IllegalArgumentException` if value is out of range"})
    private static void appendValue() {
        Edges.bounds(Rooms::busy, 0, 127, Rooms.ARGUMENT, RackMoves::append);
        Edges.bounds(RackMoves::new, 0, 127, Rooms.ARGUMENT, RackMoves::append);
        Edges.refusedBeyond(Rooms::full, 0, 127, Rooms.ARGUMENT, RackMoves::append);
        Edges.refused("of 'h' and 256", RackMoves::new, Rooms.ARGUMENT, room -> room.append('h' + 256));
    }

    @Says(promise = 26, value = "Returns the new length of the text.")
    private static void appendReturns() {
        RackMoves room = new RackMoves();
        for (int length = 1; length <= 90; length++) {
            Check.is("length", room.append(length), length);
        }
        room.clearText();
        Check.is("length behind clearText", room.append('h'), 1);
    }

    @Says(promise = 26, value = "Throws `IllegalStateException` if the text has 90 bytes")
    private static void appendToAFullText() {
        for (int value = 0; value < 128; value++) {
            RackMoves room = Rooms.full();
            int each = value;
            Check.same("thrown for " + value, Check.thrownBy(() -> room.append(each)), Rooms.STATE);
        }
        Edges.refused("of a 91st byte", Rooms::full, Rooms.STATE, room -> room.append('h'));
        RackMoves room = Rooms.full();
        Check.is("length", room.clearText(), 90);
        Check.is("then there is room", room.append('h'), 1);
    }

    // Promise 27: clearText.

    @Says(promise = 27, value = "Empties the plan text.")
    private static void emptiesTheText() {
        RackMoves room = Rooms.full();
        room.clearText();
        Check.is("a plan without steps", room.plan(), 0);
        Check.is("hour", room.value(4), 0);
        room.append('h');
        room.append(';');
        Check.is("what was there is gone", room.plan(), 0);
        Check.is("hour", room.value(4), 1);
    }

    @Says(promise = 27, value = "Empties the plan text.")
    private static void emptiesNothingElse() {
        Edges.Make cleared = Edges.behind(Rooms::busy, RackMoves::clearText);
        Edges.Make again = Edges.behind(cleared, room -> {
            Rooms.put(room, "m0>2;h;p1>2;");
            return room;
        });
        Check.same("the story with the text again", Story.of(again), Story.of(Rooms::busy));
        Edges.idle("of clearText of an empty text", cleared, RackMoves::clearText);
    }

    @Says(promise = 27, value = "Returns the length that it had.")
    private static void clearTextReturns() {
        for (int length = 0; length <= 90; length++) {
            RackMoves room = new RackMoves();
            for (int i = 0; i < length; i++) {
                room.append(i);
            }
            Check.is("length", room.clearText(), length);
            Check.is("and then", room.clearText(), 0);
        }
    }

    // Promise 28: plan.

    @Says(promise = 28, value = "Does the plan of the text: its steps one after the other;")
    private static void oneAfterTheOther() {
        RackMoves room = Rooms.standing(0, 0, NONE);
        Check.is("plan", Rooms.plan(room, "m0>1;h;m2>0;p1>2;h;m1>s;m1>0;"), 5);
        RackMoves byCalls = Rooms.standing(0, 0, NONE);
        byCalls.move(0, 1);
        byCalls.pass(1);
        byCalls.move(2, 0);
        byCalls.change(1, 2);
        byCalls.pass(1);
        byCalls.move(1, NONE);
        byCalls.move(1, 0);
        room.clearText();
        Check.is("digest", room.digest(), byCalls.digest());
        Check.is("the lowest slot, in its turn", room.machine(2, 5), 0);
    }

    @Says(promise = 28, value = "if one is not possible, nothing changes at all.")
    private static void notPossibleAtAll() {
        String[] texts = {"m0>0;", "m0>2;m0>2;", "h;m0>2;h;p1>2;m2>s;m2>s;", "h;h;h;h;h;p1>1;", "m0>4;", "h;m3>0;",
            "p0>1;p0>2;m1>s;p1>1;", "m0>2;p1>2;m0>4;h;"};
        for (String text : texts) {
            Edges.Make make = Edges.behind(Rooms::busy, room -> {
                Rooms.put(room, text);
                return room;
            });
            Check.is("not possible: " + text, make.room().plan() <= -1000 ? 1 : 0, 1);
            Edges.idle("of " + text, make, RackMoves::plan);
        }
        Edges.idle("of a plan in a full room", Rooms::full, RackMoves::plan);
    }

    @Says(promise = 28, value = "The text stays as it is.")
    private static void theTextStays() {
        RackMoves room = Rooms.standing(0, NONE);
        Check.is("done", Rooms.plan(room, "m0>1;m0>0;h;"), 2);
        Check.is("done once more", room.plan(), 2);
        Check.is("and again", room.plan(), 2);
        Check.is("hour", room.value(4), 3);
        Check.is("its length", room.clearText(), 12);
        Check.is("not possible", Rooms.plan(room, "m1>s;"), -1002);
        Check.is("not possible once more", room.plan(), -1002);
        Check.is("its length", room.clearText(), 5);
        Check.is("a syntax error", Rooms.plan(room, "m1>s"), -14);
        Check.is("what is appended is behind it", room.append(';'), 5);
        Check.is("no syntax error then", room.plan(), -1002);
    }

    @Says(promise = 28, value = "Undoable (one saved state), if the plan is done.")
    private static void planUndoable() {
        Edges.undoable("of a plan", Rooms::busy, RackMoves::plan);
        Edges.undoable("of a plan of 18 steps", EdgesOfPlansTest::longPlan, RackMoves::plan);
        Edges.undoable("of an empty plan", RackMoves::new, RackMoves::plan);
        RackMoves room = longPlan();
        Check.is("plan", room.plan(), 18);
        Check.is("on the pile", room.value(11), 20);
        Check.is("undo", room.undo(), 3);
        Check.is("on the pile again", room.value(11), 12);
    }

    /** A plan of 18 steps, behind another one of 12; 3 saved states. */
    private static RackMoves longPlan() {
        RackMoves room = Rooms.withMachines(1);
        Rooms.plan(room, "m0>1;m0>2;m0>3;m0>4;m0>3;m0>2;m0>3;m0>4;m0>3;m0>2;m0>1;m0>0;");
        Rooms.put(room, "m0>1;m0>0;".repeat(9));
        return room;
    }

    @Says(promise = 28, value = "Returns the number of steps that are done;")
    private static void planReturnsSteps() {
        for (int steps = 0; steps <= 18; steps++) {
            RackMoves room = Rooms.standing(0);
            StringBuilder text = new StringBuilder();
            for (int step = 1; step <= steps; step++) {
                text.append("m0>").append(step % 6).append(';');
            }
            Check.is("steps", Rooms.plan(room, text.toString()), steps);
            Check.is("as told", room.value(12), 1 + steps);
        }
        Check.is("hours do not count", Rooms.plan(Rooms.standing(0), "h;p0>1;h;m0>1;h;"), 2);
    }

    @Says(promise = 28, value = "-10 minus the syntax error position if there is a syntax error;")
    private static void planReturnsPosition() {
        Check.is("at 0", Rooms.plan(new RackMoves(), "x"), -10);
        for (int hours = 0; hours <= 44; hours++) {
            Check.is("behind " + hours, Rooms.plan(new RackMoves(), "h;".repeat(hours) + "x"), -10 - 2 * hours);
            Check.is("at its end", Rooms.plan(new RackMoves(), "h;".repeat(hours) + "h"), -10 - 2 * hours - 1);
        }
        Check.is("at 90", Rooms.plan(Rooms.withMachines(1), "h;".repeat(43) + "m00>"), -10 - 90);
        Check.is("ahead of a step that is not possible", Rooms.plan(Rooms.standing(0), "m0>0;m0>0"), -10 - 9);
        Check.is("ahead of an hour that is too late", Rooms.plan(Rooms.at(2000), "h;p"), -10 - 3);
    }

    @Says(promise = 28, value = {"otherwise, if a step is not possible,",
        "-1000 minus 10 * (its number in the plan, from 0; \"h\" does not count),",
        "minus the number of what makes it impossible;"})
    private static void planReturnsTheStep() {
        for (int number = 0; number <= 17; number++) {
            StringBuilder text = new StringBuilder();
            for (int step = 1; step <= number; step++) {
                text.append("m0>").append(step % 6).append(';');
            }
            text.append("p0>0;");
            Check.is("number " + number, Rooms.plan(Rooms.standing(0), text.toString()), -1000 - 10 * number - 2);
            text.insert(0, number < 17 ? "h;" : "");
            Check.is("behind an hour", Rooms.plan(Rooms.standing(0), text.toString()), -1000 - 10 * number - 2);
        }
        Check.is("a freeze that begins", Rooms.plan(frozenLater(), "m0>1;h;m0>2;"), -1000 - 10 - 1);
        Check.is("a freeze that ends", Rooms.plan(frozenLater(), "m0>1;h;h;m0>2;"), 2);
    }

    private static RackMoves frozenLater() {
        RackMoves room = Rooms.standing(0);
        room.addFreeze(0, 1, 1);
        return room;
    }

    @Says(promise = 28, value = "-9999 if the hour would be greater than 2000 ahead of that.")
    private static void planReturnsTooLate() {
        for (int hour = 1996; hour <= 2000; hour++) {
            for (int hours = 0; hours <= 6; hours++) {
                RackMoves room = Rooms.at(hour);
                int due = hour + hours > 2000 ? -9999 : 0;
                Check.is(hours + " hours at " + hour, Rooms.plan(room, "h;".repeat(hours)), due);
                Check.is("hour then", room.value(4), due == 0 ? hour + hours : hour);
            }
        }
        Check.is("ahead of the step", Rooms.plan(oneAt(2000), "h;m0>s;"), -9999);
        Check.is("behind the step", Rooms.plan(oneAt(2000), "m0>s;h;"), -1002);
        Check.is("behind a step that is possible", Rooms.plan(oneAt(2000), "m0>1;h;"), -9999);
        Edges.Make late = Edges.behind(() -> oneAt(1999), room -> Rooms.plan(room, "m0>1;h;p0>2;h;m0>2;"));
        Check.is("it is too late", late.room().plan(), -9999);
        Check.is("nothing is done", late.room().value(12), 0);
        Check.is("nor is the hour another one", late.room().value(4), 1999);
    }

    private static RackMoves oneAt(int hour) {
        RackMoves room = Rooms.at(hour);
        room.addMachine(1, 1, 0, 0);
        return room;
    }

    // Promise 29: undo.

    @Says(promise = 29, value = "Restores the most recently saved state and removes it from the saved states.")
    private static void restoresTheMostRecent() {
        RackMoves room = new RackMoves();
        room.addMachine(1, 5, 0, 0);
        room.move(0, 3);
        room.change(0, 2);
        room.pass(9);
        room.undo();
        Check.is("the hour", room.value(4), 0);
        Check.is("the phase stays", room.machine(0, 2), 2);
        room.undo();
        Check.is("the phase", room.machine(0, 2), 0);
        Check.is("the rack stays", room.machine(0, 4), 3);
        room.undo();
        Check.is("the rack", room.machine(0, 4), NONE);
        Check.is("the pile", room.value(11), 0);
        room.undo();
        Check.is("no machine", room.value(0), 0);
        Check.same("all are removed", Check.thrownBy(room::undo), Rooms.STATE);
    }

    @Says(promise = 29, value = "removes it from the saved states.")
    private static void isNotUndoableItself() {
        RackMoves room = new RackMoves();
        room.setLevel(1);
        room.setLevel(2);
        room.undo();
        Check.is("level", room.value(5), 1);
        room.undo();
        Check.is("not back to 2", room.value(5), 100);
        for (int level = 10; level < 20; level++) {
            room.setLevel(level);
            room.undo();
            Check.is("again and again", room.value(5), 100);
        }
        Check.same("nothing is left", Check.thrownBy(room::undo), Rooms.STATE);
    }

    @Says(promise = 29, value = "Returns the number of saved states that remain.")
    private static void undoReturns() {
        for (int calls = 1; calls <= 6; calls++) {
            RackMoves room = new RackMoves();
            for (int call = 0; call < calls; call++) {
                room.pass(1);
            }
            for (int left = Math.min(4, calls) - 1; left >= 0; left--) {
                Check.is("behind " + calls, room.undo(), left);
            }
        }
    }

    @Says(promise = 29, value = "Throws `IllegalStateException` if there is no saved state")
    private static void nothingToUndo() {
        Edges.refused("in a new room", RackMoves::new, Rooms.STATE, RackMoves::undo);
        Edges.Make undone = () -> {
            RackMoves room = Rooms.busy();
            Rooms.undoAll(room);
            return room;
        };
        Edges.refused("when all are undone", undone, Rooms.STATE, RackMoves::undo);
        Edges.refused("behind calls that save nothing", () -> {
            RackMoves room = undone.room();
            room.move(0, 0);
            room.append('h');
            room.plan();
            return room;
        }, Rooms.STATE, RackMoves::undo);
    }

    // Promise 30: digest.

    @Says(promise = 30, value = {"Returns a hash of the state.", "Returns the hash,"})
    private static void digestOfANewRoom() {
        // Worked out by hand: 3511, then 0 and value(), rack() and slot(), tray(), and 0 saved states.
        BigInteger h = BigInteger.valueOf(3511);
        int[] head = {0, 0, 0, 0, 0, 0, 100, 0, 0, 0, 0, 0, 0, 0, 0};
        h = mixed(h, head);
        for (int rack = 0; rack < 6; rack++) {
            h = mixed(h, 200, 0, 0, 0, 0, 0, 10, 4);
            h = mixed(h, -1, -1, -1, -1, -1, -1, -1, -1, -1, -1);
        }
        h = mixed(h, 0, 0, 0, 0, 0);
        h = mixed(h, 0);
        Check.is("digest", new RackMoves().digest(), h.longValue());
        Edges.idle("of digest", Rooms::busy, RackMoves::digest);
    }

    private static BigInteger mixed(BigInteger start, int... values) {
        BigInteger h = start;
        for (int value : values) {
            h = h.multiply(BigInteger.valueOf(31)).add(BigInteger.valueOf(value));
        }
        return h;
    }

    @Says(promise = 30, value = {"Start with h = 3511 and, for each of the following values v, set h = 31 * h + v:",
        "the length of the text; value() for 0 to 13;",
        "for each rack the values of rack() for what = 0 to 7 and the machines in its slots, by slot();",
        "for each tray tray(); for each machine the values of machine() for what = 0 to 7;",
        "for each cable the values of cable() for what = 0 to 3;",
        "for each step on the pile, from the latest one, the values of pile() for what = 0 to 3;",
        "the number of saved states."})
    private static void digestOfTheValues() {
        Check.is("new", new RackMoves().digest(), byCalls(RackMoves::new).longValue());
        Check.is("busy", Rooms.busy().digest(), byCalls(Rooms::busy).longValue());
        Check.is("full", Rooms.full().digest(), byCalls(Rooms::full).longValue());
        Edges.Make[] others = {() -> Rooms.at(2000), () -> Rooms.standing(5, 5, 0, NONE), EdgesOfPlansTest::longPlan,
            Edges.behind(Rooms::busy, RackMoves::plan), Edges.behind(Rooms::full, RackMoves::undo)};
        for (Edges.Make make : others) {
            Check.is("others", make.room().digest(), byCalls(make).longValue());
        }
    }

    private static BigInteger byCalls(Edges.Make make) {
        RackMoves room = make.room();
        BigInteger h = mixed(BigInteger.valueOf(3511), make.room().clearText());
        for (int what = 0; what <= 13; what++) {
            h = mixed(h, room.value(what));
        }
        for (int rack = 0; rack < 6; rack++) {
            for (int what = 0; what <= 7; what++) {
                h = mixed(h, room.rack(rack, what));
            }
            for (int slot = 0; slot < 10; slot++) {
                h = mixed(h, room.slot(rack, slot));
            }
        }
        for (int tray = 0; tray < 5; tray++) {
            h = mixed(h, room.tray(tray));
        }
        return mixed(byCallsOfLists(h, make), Edges.savedIn(make));
    }

    private static BigInteger byCallsOfLists(BigInteger start, Edges.Make make) {
        RackMoves room = make.room();
        BigInteger h = start;
        for (int machine = 0; machine < room.value(0); machine++) {
            for (int what = 0; what <= 7; what++) {
                h = mixed(h, room.machine(machine, what));
            }
        }
        for (int cable = 0; cable < room.value(2); cable++) {
            for (int what = 0; what <= 3; what++) {
                h = mixed(h, room.cable(cable, what));
            }
        }
        RackMoves again = make.room();
        for (int index = 0; index < again.value(11); index++) {
            for (int what = 0; what <= 3; what++) {
                h = mixed(h, again.pile(index, what));
            }
        }
        return h;
    }

    @Says(promise = 30, value = "Returns the hash, with the overflow of long arithmetic ignored.")
    private static void digestOverflows() {
        BigInteger whole = byCalls(Rooms::full);
        Check.is("far more than 64 bits", whole.bitLength() > 1000 ? 1 : 0, 1);
        Check.is("digest is the lowest 64 of them", Rooms.full().digest(), whole.longValue());
        boolean negative = false;
        boolean positive = false;
        for (int level = 0; level <= 100; level++) {
            RackMoves room = new RackMoves();
            room.setLevel(level);
            negative |= room.digest() < 0;
            positive |= room.digest() > 0;
        }
        Check.is("negative ones, and positive ones", negative && positive ? 1 : 0, 1);
    }

    @Says(promise = 30, value = "the number of saved states.")
    private static void digestOfSavedStates() {
        RackMoves room = new RackMoves();
        long digest = room.digest();
        for (int saved = 1; saved <= 6; saved++) {
            room.setLevel(100);
            Check.is("more by the saved states", room.digest() - digest, Math.min(4, saved));
        }
    }
}
