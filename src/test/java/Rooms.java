/** Rooms and calls that several tests need. */
final class Rooms {
    static final Class<IndexOutOfBoundsException> INDEX = IndexOutOfBoundsException.class;
    static final Class<IllegalArgumentException> ARGUMENT = IllegalArgumentException.class;
    static final Class<IllegalStateException> STATE = IllegalStateException.class;
    static final int[] FAR = {Integer.MIN_VALUE, -1000, 1000000, Integer.MAX_VALUE};

    private Rooms() {
    }

    /** A room that is level whatever stands in it, with machines of size 1 and load 1, phase 0, team 0. */
    static RackMoves withMachines(int machines) {
        RackMoves room = new RackMoves();
        room.setLevel(500);
        for (int i = 0; i < machines; i++) {
            room.addMachine(1, 1, 0, 0);
        }
        return room;
    }

    static void put(RackMoves room, String text) {
        room.clearText();
        for (int i = 0; i < text.length(); i++) {
            room.append(text.charAt(i));
        }
    }

    static int plan(RackMoves room, String text) {
        put(room, text);
        return room.plan();
    }

    static void passTo(RackMoves room, int hour) {
        while (room.value(4) < hour) {
            room.pass(Math.min(99, hour - room.value(4)));
        }
    }

    static int undoAll(RackMoves room) {
        int undone = 0;
        while (Check.thrownBy(room::undo) == null) {
            undone++;
        }
        return undone;
    }
}
