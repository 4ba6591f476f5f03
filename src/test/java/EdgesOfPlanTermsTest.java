/** The Terms, from Plan text to the constants: each sentence by a test of its own. */
public final class EdgesOfPlanTermsTest {
    private static final int NONE = RackMoves.NONE;
    private static final String DIGITS = "0123456789";

    public static void main(String[] args) {
        Sentences.run(EdgesOfPlanTermsTest.class);
    }

    // Plan text.

    @Says(promise = 0, value = "The text has at most 90 bytes.")
    private static void ninetyBytes() {
        RackMoves room = Rooms.withMachines(1);
        String moves = "m0>0;m0>1;".repeat(9);
        for (int i = 0; i < 90; i++) {
            Check.is("length", room.append(moves.charAt(i)), i + 1);
        }
        Check.same("a 91st byte", Check.thrownBy(() -> room.append(';')), Rooms.STATE);
        Check.is("all 90 are read", room.plan(), 18);
        Check.is("the latest one", room.machine(0, 4), 1);
        Check.is("as long as before", room.clearText(), 90);
        Check.is("45 parts", Rooms.plan(room, "h;".repeat(44) + "h"), -10 - 89);
        Check.is("45 parts", Rooms.plan(room, "h;".repeat(45)), 0);
        Check.is("hour", room.value(4), 45);
    }

    @Says(promise = 0, value = "It is a plan: a sequence of steps, each terminated by a semicolon:")
    private static void eachTerminated() {
        for (String part : new String[] {"m0>5", "m00>s", "p1>2", "p01>0", "h"}) {
            RackMoves room = twelve();
            Check.is("ends too early: " + part, Rooms.plan(room, part), -10 - part.length());
            Check.is("another terminator: " + part, Rooms.plan(room, part + ":"), -10 - part.length());
            Check.is("the next one at once: " + part, Rooms.plan(room, part + "h;"), -10 - part.length());
            Check.is("twice: " + part, Rooms.plan(room, part + ";;"), -10 - part.length() - 1);
            Check.is("ahead: " + part, Rooms.plan(room, ";" + part + ";"), -10);
            int first = Rooms.plan(room, part + ";");
            Check.is("terminated: " + part, first == -1000 - 2 || first >= 0 ? 1 : 0, 1);
        }
        Check.is("a sequence", Rooms.plan(twelve(), "m0>5;m1>5;h;p1>2;m01>s;"), 4);
    }

    private static RackMoves twelve() {
        return Rooms.withMachines(12);
    }

    @Says(promise = 0, value = "\"m\", the number of a machine (one or two digits), \">\", and a rack digit 0 to 5,")
    private static void moveToARack() {
        for (int machine = 0; machine < 12; machine++) {
            for (int rack = 0; rack < 6; rack++) {
                RackMoves room = twelve();
                Check.is("m" + machine, Rooms.plan(room, "m" + machine + ">" + rack + ";"), 1);
                Check.is("rack of " + machine, room.machine(machine, 4), rack);
                Check.is("those that stand", room.value(1), 1);
            }
        }
        nextBytes("m", DIGITS);
        nextBytes("m0", ">" + DIGITS);
        nextBytes("m9", ">");
        nextBytes("m1", ">01");
        nextBytes("m11", ">");
        nextBytes("m11>", "012345s");
        nextBytes("m3>5", ";");
    }

    /** Of all bytes just these can stand behind the start, in a room of 12 machines. */
    private static void nextBytes(String start, String can) {
        for (int value = 0; value < 128; value++) {
            RackMoves room = twelve();
            Rooms.put(room, start);
            room.append(value);
            int planned = room.plan();
            boolean isNoMachine = start.matches("[mp]\\d") && DIGITS.indexOf(value) >= 0;
            if (can.indexOf(value) >= 0) {
                boolean stands = planned >= 0 || planned == -10 - start.length() - 1;
                Check.is("byte " + value + " stands behind " + start, stands ? 1 : 0, 1);
            } else {
                int position = isNoMachine ? 1 : start.length();
                Check.is("byte " + value + " behind " + start, planned, -10 - position);
            }
        }
    }

    @Says(promise = 0, value = "or \"s\" for the store;")
    private static void moveToTheStore() {
        RackMoves room = Rooms.standing(0, 1);
        Check.is("to the store", Rooms.plan(room, "m1>s;m00>s;"), 2);
        Check.is("those that stand", room.value(1), 0);
        Check.is("no capital letter", Rooms.plan(room, "m1>S;"), -13);
        Check.is("no store for phases", Rooms.plan(room, "p1>s;"), -13);
    }

    @Says(promise = 0, value = "or \"p\", the number of a machine, \">\", and a phase digit 0 to 2;")
    private static void changeAPhase() {
        for (int machine = 0; machine < 12; machine++) {
            for (int phase = 0; phase < 3; phase++) {
                RackMoves room = twelve();
                int due = phase == 0 ? -1000 - 2 : 1;
                Check.is("p" + machine, Rooms.plan(room, "p" + machine + ">" + phase + ";"), due);
                Check.is("phase of " + machine, room.machine(machine, 2), phase);
            }
        }
        nextBytes("p", DIGITS);
        nextBytes("p0", ">" + DIGITS);
        nextBytes("p1", ">01");
        nextBytes("p08", ">");
        nextBytes("p11>", "012");
        nextBytes("p3>2", ";");
    }

    @Says(promise = 0, value = "or \"h\", which is no step: the hour increases by 1.")
    private static void anHour() {
        RackMoves room = twelve();
        Check.is("no step", Rooms.plan(room, "h;"), 0);
        Check.is("hour", room.value(4), 1);
        Check.is("steps done", room.value(12), 0);
        Check.is("on the pile", room.value(11), 0);
        Check.is("three of them and a step", Rooms.plan(room, "h;m0>0;h;h;"), 1);
        Check.is("hour", room.value(4), 4);
        nextBytes("h", ";");
        nextBytes("h;", "mph");
        nextBytes("", "mph");
    }

    @Says(promise = 0, value = "There are no spaces;")
    private static void noSpaces() {
        String plan = "m0>5;h;p1>2;m11>s;";
        for (int at = 0; at < plan.length(); at++) {
            String spaced = plan.substring(0, at) + " " + plan.substring(at);
            Check.is("space at " + at, Rooms.plan(twelve(), spaced), -10 - at);
        }
        Check.is("a space alone", Rooms.plan(twelve(), " "), -10);
        Check.is("a line's end", Rooms.plan(twelve(), "h;\n"), -10 - 2);
    }

    @Says(promise = 0, value = "there may be no steps.")
    private static void noSteps() {
        Check.is("an empty text", new RackMoves().plan(), 0);
        RackMoves room = Rooms.busy();
        long before = room.digest();
        room.clearText();
        Check.is("an empty text, in a busy room", room.plan(), 0);
        room.undo();
        Rooms.put(room, "m0>2;h;p1>2;");
        Check.is("changes nothing", room.digest(), before);
        Check.is("hours alone", Rooms.plan(new RackMoves(), "h;h;"), 0);
    }

    @Says(promise = 0, value = "Numbers can have a zero in front.")
    private static void zeroInFront() {
        for (int machine = 0; machine < 10; machine++) {
            RackMoves room = Rooms.withMachines(machine + 1);
            Check.is("m0" + machine, Rooms.plan(room, "m0" + machine + ">3;"), 1);
            Check.is("its rack", room.machine(machine, 4), 3);
            Check.is("p0" + machine, Rooms.plan(room, "p0" + machine + ">1;"), 1);
            Check.is("its phase", room.machine(machine, 2), 1);
        }
        Check.is("two zeros are one and the number 0", Rooms.plan(twelve(), "m00>1;"), 1);
        Check.is("not ahead of two digits", Rooms.plan(twelve(), "m011>1;"), -10 - 3);
        Check.is("not ahead of a rack", Rooms.plan(twelve(), "m1>01;"), -10 - 4);
        Check.is("not ahead of a phase", Rooms.plan(twelve(), "p1>01;"), -10 - 4);
    }

    @Says(promise = 0, value = {"The syntax error position is the index of the first byte",
        "that cannot stand where it stands"})
    private static void firstByteThatCannotStand() {
        String plan = "m0>5;p10>2;h;m11>s;";
        for (int at = 0; at < plan.length(); at++) {
            for (char wrong : "x#~\0\177:<=?".toCharArray()) {
                String spoilt = plan.substring(0, at) + wrong + plan.substring(at + 1);
                Check.is("plan of " + spoilt, Rooms.plan(twelve(), spoilt), -10 - at);
                Check.is("of two, the first", Rooms.plan(twelve(), spoilt + "x"), -10 - at);
            }
        }
        Check.is("the 90th", Rooms.plan(twelve(), "h;".repeat(44) + "hh"), -10 - 89);
        Check.is("steps ahead of it are not done", Rooms.plan(twelve(), "m0>0;m0>0;x"), -10 - 10);
    }

    @Says(promise = 0, value = "(a third digit, too),")
    private static void thirdDigit() {
        for (char kind : "mp".toCharArray()) {
            for (int number = 0; number < 100; number += 11) {
                for (int digit = 0; digit < 10; digit++) {
                    String text = kind + (number < 10 ? "0" : "") + number + digit;
                    Check.is("plan of " + text, Rooms.plan(twelve(), text), -10 - 3);
                    Check.is("plan of " + text + ">", Rooms.plan(twelve(), text + ">0;"), -10 - 3);
                }
            }
        }
        Check.is("in a room without machines", Rooms.plan(new RackMoves(), "h;m000"), -10 - 5);
    }

    @Says(promise = 0, value = "or the length of the text if the text ends too early.")
    private static void endsTooEarly() {
        String plan = "m0>5;p10>2;h;m11>s;";
        for (int length = 1; length < plan.length(); length++) {
            if (plan.charAt(length - 1) != ';') {
                String text = plan.substring(0, length);
                Check.is("plan of " + text, Rooms.plan(twelve(), text), -10 - length);
            }
        }
        Check.is("at 90 bytes", Rooms.plan(twelve(), "h;".repeat(42) + "m11>0" + "h"), -10 - 89);
        Check.is("at 90 bytes", Rooms.plan(twelve(), "h;".repeat(43) + "m11>"), -10 - 90);
    }

    @Says(promise = 0, value = "For a number of no machine it is the index of its first digit,")
    private static void numberOfNoMachine() {
        for (int machines = 0; machines <= 12; machines++) {
            for (int number = 0; number < 100; number++) {
                RackMoves room = Rooms.withMachines(machines);
                int due = number < machines ? 1 : -10 - 1;
                Check.is(number + " of " + machines, Rooms.plan(room, "m" + number + ">2;"), due);
                if (number < 10) {
                    room = Rooms.withMachines(machines);
                    Check.is("0" + number + " of " + machines, Rooms.plan(room, "h;p0" + number + ">2;"),
                        number < machines ? 1 : -10 - 3);
                }
            }
        }
    }

    @Says(promise = 0, value = {"found when a byte that is no digit, whichever it is,",
        "or the end of the text, follows it."})
    private static void foundWhenItEnds() {
        for (String number : new String[] {"3", "9", "03", "12", "33", "99"}) {
            Check.is("at the end", Rooms.plan(Rooms.withMachines(3), "h;m" + number), -10 - 3);
            for (int value = 0; value < 128; value++) {
                RackMoves room = Rooms.withMachines(3);
                boolean isDigit = DIGITS.indexOf(value) >= 0;
                Rooms.put(room, "h;p" + number);
                room.append(value);
                int byDigit = number.length() == 2 ? -10 - 5 : -10 - 3;
                Check.is("byte " + value + " behind " + number, room.plan(), isDigit ? byDigit : -10 - 3);
            }
        }
        Check.is("a wrong byte behind a machine's number is itself the error",
            Rooms.plan(Rooms.withMachines(3), "h;m2x"), -10 - 4);
        Check.is("one digit of two is not yet the number", Rooms.plan(Rooms.withMachines(11), "m10>0;"), 1);
    }

    // Undo.

    private static final Edges.Use[] UNDOABLE = {room -> room.setLimit(0, 77), room -> room.setTray(0, 8),
        room -> room.setLevel(110), room -> room.addMachine(1, 1, 0, 0), room -> room.addCable(0, 1, 20),
        room -> room.removeCable(0), room -> room.addFreeze(0, 9, 9), room -> room.removeFreeze(0),
        room -> room.pass(1), room -> room.move(1, 2), room -> room.change(1, 2), RackMoves::backOut, RackMoves::plan};

    @Says(promise = 0, value = {"Each successful call of a method whose description says \"undoable\"",
        "saves the state from before the call,"})
    private static void savesTheStateBefore() {
        for (int i = 0; i < UNDOABLE.length; i++) {
            Edges.undoable("of call " + i, Rooms::busy, UNDOABLE[i]);
        }
    }

    @Says(promise = 0, value = "Each successful call of a method whose description says \"undoable\"")
    private static void othersSaveNothing() {
        Edges.Use[] others = {room -> room.machine(0, 0), room -> room.rack(0, 7), room -> room.slot(0, 0),
            room -> room.cable(0, 3), room -> room.tray(0), room -> room.value(10), room -> room.pile(0, 0),
            room -> room.mayMove(1, 2), room -> room.mayMove(1, 1), room -> room.bestRack(0), RackMoves::bestChange,
            RackMoves::backable, RackMoves::taken, RackMoves::digest};
        for (int i = 0; i < others.length; i++) {
            Edges.idle("of call " + i, Rooms::busy, others[i]);
            Edges.idle("of call " + i + " in a full room", Rooms::full, others[i]);
        }
        Check.is("append", Edges.savedIn(Edges.behind(Rooms::busy, room -> room.append('h'))), 3);
        Check.is("clearText", Edges.savedIn(Edges.behind(Rooms::busy, RackMoves::clearText)), 3);
        Check.is("undo", Edges.savedIn(Edges.behind(Rooms::busy, RackMoves::undo)), 2);
    }

    @Says(promise = 0, value = "Each successful call")
    private static void whatIsNotDoneSavesNothing() {
        Edges.idle("of a move that is not possible", Rooms::busy, room -> room.move(1, 1));
        Edges.idle("of a change that is not possible", Rooms::busy, room -> room.change(1, 1));
        Edges.idle("of no step to back out", RackMoves::new, RackMoves::backOut);
        Edges.idle("of a plan that is not possible", () -> withText("m0>2;m0>2;"), RackMoves::plan);
        Edges.idle("of a plan with a syntax error", () -> withText("m0>2;h"), RackMoves::plan);
        Edges.idle("of a plan that is too late", EdgesOfPlanTermsTest::late, RackMoves::plan);
    }

    private static RackMoves withText(String text) {
        RackMoves room = Rooms.busy();
        Rooms.put(room, text);
        return room;
    }

    private static RackMoves late() {
        RackMoves room = Rooms.at(2000);
        room.addMachine(1, 1, 0, 0);
        Rooms.put(room, "m0>2;h;");
        return room;
    }

    @Says(promise = 0, value = "even if the call changes nothing;")
    private static void savesEvenIfNothingChanges() {
        Edges.undoable("of the same limit", Rooms::busy, room -> room.setLimit(5, 150));
        Edges.undoable("of the same room", Rooms::busy, room -> room.setTray(2, 7));
        Edges.undoable("of the same level", Rooms::busy, room -> room.setLevel(120));
        Edges.undoable("of a plan without steps", () -> withText(""), RackMoves::plan);
        RackMoves room = new RackMoves();
        for (int i = 0; i < 9; i++) {
            room.setLevel(100);
        }
        Check.is("saved states", Rooms.undoAll(room), 4);
    }

    @Says(promise = 0, value = "at most 4 states are saved, and the oldest is dropped first.")
    private static void fourStates() {
        for (int calls = 0; calls <= 10; calls++) {
            RackMoves room = new RackMoves();
            for (int level = 1; level <= calls; level++) {
                room.setLevel(level);
            }
            int saved = Math.min(4, calls);
            for (int left = saved - 1; left >= 0; left--) {
                Check.is("those that remain", room.undo(), left);
                int undone = saved - left;
                Check.is("level", room.value(5), undone == calls ? 100 : calls - undone);
            }
            Check.same("no more", Check.thrownBy(room::undo), Rooms.STATE);
        }
        RackMoves again = new RackMoves();
        for (int level = 1; level <= 6; level++) {
            again.setLevel(level);
        }
        again.undo();
        again.undo();
        for (int level = 7; level <= 9; level++) {
            again.setLevel(level);
        }
        for (int due : new int[] {8, 7, 4, 3}) {
            again.undo();
            Check.is("level", again.value(5), due);
        }
        Check.same("no more", Check.thrownBy(again::undo), Rooms.STATE);
    }

    @Says(promise = 0, value = "The saved state contains everything except the plan text.")
    private static void everythingButTheText() {
        RackMoves shorter = Rooms.busy();
        shorter.setLevel(300);
        Rooms.put(shorter, "h;");
        shorter.undo();
        Check.is("the level is restored", shorter.value(5), 120);
        Check.is("the shorter text stays", shorter.plan(), 0);
        Check.is("its length", shorter.clearText(), 2);
        RackMoves longer = Rooms.busy();
        longer.setLevel(300);
        longer.append('h');
        longer.append(';');
        longer.undo();
        Check.is("the longer text stays", longer.plan(), 2);
        Check.is("its hours", longer.value(4), 4);
        longer.undo();
        Check.is("its length", longer.clearText(), 14);
    }

    @Says(promise = 0, value = "The saved state contains everything except the plan text.")
    private static void eachThingIsSaved() {
        for (int i = 0; i < UNDOABLE.length; i++) {
            for (int j = 0; j < UNDOABLE.length; j++) {
                Edges.Use first = UNDOABLE[i];
                Edges.Use second = UNDOABLE[j];
                Edges.Make made = Edges.behind(Edges.behind(Rooms::busy, RackMoves::undo), first);
                Edges.Make back = Edges.behind(Edges.behind(made, second), RackMoves::undo);
                boolean done = Edges.savedIn(Edges.behind(made, second)) == Edges.savedIn(made) + 1;
                Check.same("calls " + i + " and " + j, done ? Story.of(back) : "", done ? Story.of(made) : "");
            }
        }
    }

    // Exceptions.

    private static final Edges.Use[] REFUSED_INDEX = {room -> room.setLimit(6, 1), room -> room.setTray(5, 1),
        room -> room.addCable(0, 12, 5), room -> room.removeCable(10), room -> room.removeFreeze(6),
        room -> room.machine(12, 0), room -> room.rack(-1, 0), room -> room.slot(0, 10), room -> room.cable(10, 0),
        room -> room.tray(-1), room -> room.move(12, 0), room -> room.change(-1, 0), room -> room.pile(-1, 0),
        room -> room.mayMove(12, 0), room -> room.bestRack(-1)};

    private static final Edges.Use[] REFUSED_ARGUMENT = {room -> room.setLimit(0, 501), room -> room.setTray(0, 10),
        room -> room.setLevel(-1), room -> room.addMachine(1, 1, 1, 4), room -> room.addCable(0, 0, 5),
        room -> room.addCable(0, 1, 21), room -> room.addFreeze(0, 0, 100), room -> room.pass(0),
        room -> room.machine(0, 8), room -> room.rack(0, 8), room -> room.cable(0, 4), room -> room.value(14),
        room -> room.move(0, -2), room -> room.change(0, 3), room -> room.pile(0, 4), room -> room.mayMove(0, 6),
        room -> room.append(128)};

    private static final Edges.Use[] REFUSED_STATE = {room -> room.addMachine(1, 1, 1, 1),
        room -> room.addCable(0, 1, 5), room -> room.addFreeze(0, 0, 1), room -> room.append('h')};

    @Says(promise = 0, value = "A call that throws an exception changes nothing.")
    private static void refusedCallsChangeNothing() {
        Edges.Make[] rooms = {Rooms::busy, Rooms::full};
        for (Edges.Make make : rooms) {
            for (int i = 0; i < REFUSED_INDEX.length; i++) {
                Edges.refused("by index call " + i, make, Rooms.INDEX, REFUSED_INDEX[i]);
            }
            for (int i = 0; i < REFUSED_ARGUMENT.length; i++) {
                Edges.refused("by argument call " + i, make, Rooms.ARGUMENT, REFUSED_ARGUMENT[i]);
            }
        }
        for (int i = 0; i < REFUSED_STATE.length; i++) {
            Edges.refused("by state call " + i, Rooms::full, Rooms.STATE, REFUSED_STATE[i]);
        }
        Edges.refused("by pass", () -> Rooms.at(2000), Rooms.STATE, room -> room.pass(1));
        Edges.refused("by undo", RackMoves::new, Rooms.STATE, RackMoves::undo);
    }

    @Says(promise = 0, value = "If several exceptions apply, the one that is listed first is thrown.")
    private static void firstListedException() {
        Edges.Use[] index = {room -> room.setLimit(-1, 501), room -> room.setTray(5, 10),
            room -> room.addCable(-1, -1, 5), room -> room.addCable(0, 12, 0), room -> room.addCable(12, 0, 21),
            room -> room.machine(-1, 8), room -> room.rack(6, -1), room -> room.cable(-1, 4), room -> room.move(12, 6),
            room -> room.change(12, 3), room -> room.pile(-1, 4), room -> room.mayMove(-1, -2)};
        for (int i = 0; i < index.length; i++) {
            Edges.refused("by index call " + i, Rooms::full, Rooms.INDEX, index[i]);
        }
        Edges.Use[] argument = {room -> room.addMachine(0, 1, 0, 0), room -> room.addMachine(1, 100, 0, 0),
            room -> room.addMachine(1, 1, 3, 0), room -> room.addMachine(1, 1, 0, -1), room -> room.addCable(3, 3, 5),
            room -> room.addCable(0, 1, 0), room -> room.addFreeze(4, 0, 1), room -> room.addFreeze(0, 1000, 1),
            room -> room.addFreeze(0, 0, 0), room -> room.append(-1)};
        for (int i = 0; i < argument.length; i++) {
            Edges.refused("by argument call " + i, Rooms::full, Rooms.ARGUMENT, argument[i]);
        }
        Edges.refused("by pass", () -> Rooms.at(2000), Rooms.ARGUMENT, room -> room.pass(0));
        Edges.refused("by pass", () -> Rooms.at(2000), Rooms.ARGUMENT, room -> room.pass(100));
    }

    // The constants.

    @Says(promise = 0, value = "The constants: `NONE = -1`: There is no such thing.")
    private static void none() {
        Check.is("NONE", RackMoves.NONE, -1);
        RackMoves room = Rooms.withMachines(1);
        Check.is("no rack", room.machine(0, 4), NONE);
        Check.is("no slot", room.machine(0, 5), NONE);
        Check.is("no machine", room.slot(0, 0), NONE);
        Check.is("no step", room.pile(0, 0), NONE);
        Check.is("no change", room.bestChange(), NONE);
        room.setLevel(0);
        Check.is("no rack to move to", room.bestRack(0), NONE);
    }
}
