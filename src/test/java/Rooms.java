/** Rooms and calls that several tests need. */
final class Rooms {
    static final Class<IndexOutOfBoundsException> INDEX = IndexOutOfBoundsException.class;
    static final Class<IllegalArgumentException> ARGUMENT = IllegalArgumentException.class;
    static final Class<IllegalStateException> STATE = IllegalStateException.class;
    static final int[] FAR = {Integer.MIN_VALUE, -1000, 1000000, Integer.MAX_VALUE};

    private Rooms() {
    }

    /** A room that is level whatever stands in it, with machines of size 1 and load 1, phase 0, team 0. */
    static RackMoves withMachines(int machines) {
        RackMoves room = new RackMoves();
        room.setLevel(500);
        for (int i = 0; i < machines; i++) {
            room.addMachine(1, 1, 0, 0);
        }
        return room;
    }

    /** Machines as in withMachines, each in its rack; NONE for the store. */
    static RackMoves standing(int... racks) {
        RackMoves room = withMachines(racks.length);
        for (int machine = 0; machine < racks.length; machine++) {
            if (racks[machine] != RackMoves.NONE) {
                room.move(machine, racks[machine]);
            }
        }
        return room;
    }

    /** Something of each kind: 4 machines, 3 cables, 2 freezes, 5 steps, 3 saved states, a plan of 2 steps. */
    static RackMoves busy() {
        RackMoves room = new RackMoves();
        int[][] machines = {{4, 60, 0, 0}, {3, 50, 1, 1}, {2, 40, 2, 2}, {1, 9, 2, 3}};
        for (int[] each : machines) {
            room.addMachine(each[0], each[1], each[2], each[3]);
        }
        room.addCable(0, 1, 8);
        room.addCable(1, 2, 20);
        room.addCable(2, 3, 5);
        room.addFreeze(3, 3, 2);
        room.addFreeze(2, 5, 1);
        room.setLimit(5, 150);
        room.setTray(2, 7);
        room.setLevel(120);
        room.move(0, 0);
        room.move(1, 1);
        room.move(2, 1);
        room.change(3, 0);
        room.move(3, 2);
        room.backOut();
        room.move(3, 1);
        room.pass(2);
        put(room, "m0>2;h;p1>2;");
        room.setLevel(0);
        room.undo();
        return room;
    }

    /** As many machines, cables, freezes, steps on the pile, saved states and bytes as there may be. */
    static RackMoves full() {
        RackMoves room = new RackMoves();
        room.setLevel(500);
        for (int machine = 0; machine < 12; machine++) {
            room.addMachine(1 + machine % 4, 10 + machine, machine % 3, machine % 4);
            room.move(machine, machine % 6);
        }
        for (int step = 0; step < 12; step++) {
            room.change(step, (step + 1) % 3);
        }
        for (int cable = 0; cable < 10; cable++) {
            room.addCable(cable, cable + 1, 20);
        }
        for (int freeze = 0; freeze < 6; freeze++) {
            room.addFreeze(freeze % 4, freeze, 1 + freeze);
        }
        put(room, "h;m01>5;".repeat(11) + "h;");
        return room;
    }

    static void put(RackMoves room, String text) {
        room.clearText();
        for (int i = 0; i < text.length(); i++) {
            room.append(text.charAt(i));
        }
    }

    static int plan(RackMoves room, String text) {
        put(room, text);
        return room.plan();
    }

    static void passTo(RackMoves room, int hour) {
        while (room.value(4) < hour) {
            room.pass(Math.min(99, hour - room.value(4)));
        }
    }

    static RackMoves at(int hour) {
        RackMoves room = new RackMoves();
        passTo(room, hour);
        return room;
    }

    static int undoAll(RackMoves room) {
        int undone = 0;
        while (Check.thrownBy(room::undo) == null) {
            undone++;
        }
        return undone;
    }
}
