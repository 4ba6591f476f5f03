import java.util.TreeSet;

/** What many tests of sentences ask in the same way: bounds of arguments, refused calls, saved states. */
final class Edges {
    /** Makes the same room each time. */
    interface Make {
        RackMoves room();
    }

    interface Use {
        Object on(RackMoves room);
    }

    interface Take {
        Object on(RackMoves room, int number);
    }

    private Edges() {
    }

    static Make behind(Make make, Use use) {
        return () -> {
            RackMoves room = make.room();
            Check.thrownBy(() -> use.on(room));
            return room;
        };
    }

    static int savedIn(Make make) {
        return Rooms.undoAll(make.room());
    }

    /** Each number from least to greatest is taken; beyond them the call is refused. */
    static void bounds(Make make, int least, int greatest, Class<? extends RuntimeException> due, Take take) {
        for (int each = least; each <= greatest; each++) {
            int number = each;
            RackMoves room = make.room();
            Check.same("thrown for " + number, Check.thrownBy(() -> take.on(room, number)), null);
        }
        refusedBeyond(make, least, greatest, due, take);
    }

    static void refusedBeyond(Make make, int least, int greatest, Class<? extends RuntimeException> due, Take take) {
        TreeSet<Integer> beyond = new TreeSet<>();
        for (int far : new int[] {1, 2, 100, 256, 65536}) {
            beyond.add(least - far);
            beyond.add(greatest + far);
        }
        beyond.add(-greatest - 1);
        beyond.add(Integer.MIN_VALUE);
        beyond.add(Integer.MIN_VALUE + least);
        beyond.add(Integer.MAX_VALUE);
        for (int number : beyond) {
            if (number < least || number > greatest) {
                refused("of " + number, make, due, room -> take.on(room, number));
            }
        }
    }

    /** The call throws just this exception, and changes nothing at all. */
    static void refused(String what, Make make, Class<? extends RuntimeException> due, Use use) {
        RackMoves room = make.room();
        Check.same("thrown " + what, Check.thrownBy(() -> use.on(room)), due);
        idle(what, make, use);
    }

    /** The call changes nothing at all: it saves no state either. */
    static void idle(String what, Make make, Use use) {
        Check.same("the story behind it " + what, Story.of(behind(make, use)), Story.of(make));
    }

    /** The call saves one state, and undo() brings all back. The room has fewer than 4 saved states before. */
    static void undoable(String what, Make make, Use use) {
        Make then = behind(make, use);
        Check.is("saved states behind it " + what, savedIn(then), savedIn(make) + 1);
        Check.same("the story behind undo() " + what, Story.of(behind(then, RackMoves::undo)), Story.of(make));
    }
}
