/** The Terms, from Room to Freezes: each sentence by a test of its own. */
public final class EdgesOfRoomTermsTest {
    private static final int NONE = RackMoves.NONE;

    public static void main(String[] args) {
        Sentences.run(EdgesOfRoomTermsTest.class);
    }

    // Room.

    @Says(promise = 0, value = "There are 6 racks in a row, numbered from 0,")
    private static void sixRacks() {
        Edges.bounds(Rooms::busy, 0, 5, Rooms.INDEX, (room, rack) -> room.rack(rack, 0));
        RackMoves room = Rooms.standing(0, 5);
        room.addCable(0, 1, 20);
        Check.is("trays from the first to the last of the row", room.cable(0, 3), 2 + 3 * 5);
    }

    @Says(promise = 0, value = "with 10 slots each, numbered from 0.")
    private static void tenSlots() {
        for (int rack = 0; rack < 6; rack++) {
            int each = rack;
            Edges.bounds(Rooms::busy, 0, 9, Rooms.INDEX, (room, slot) -> room.slot(each, slot));
            RackMoves room = Rooms.standing(rack, rack, rack, rack, rack, rack, rack, rack, rack, rack, NONE);
            for (int slot = 0; slot < 10; slot++) {
                Check.is("slot(" + rack + ", " + slot + ")", room.slot(rack, slot), slot);
            }
            Check.is("an eleventh slot in " + rack, room.move(10, rack), 3);
        }
    }

    @Says(promise = 0, value = "A rack has a limit, 0 to 500, initially 200:")
    private static void limitAtFirst() {
        RackMoves room = new RackMoves();
        for (int rack = 0; rack < 6; rack++) {
            Check.is("limit of " + rack, room.rack(rack, 0), 200);
            Check.is("limit of " + rack + " when it is set", room.setLimit(rack, 500), 200);
            Check.is("set to 0", room.setLimit(rack, 0), 500);
            Check.is("limit of " + rack, room.rack(rack, 0), 0);
        }
    }

    @Says(promise = 0, value = "the greatest load of its machines.")
    private static void limitIsTheGreatestLoad() {
        for (int limit : new int[] {0, 1, 2, 99, 199, 200, 201, 499, 500}) {
            for (int rack = 0; rack < 6; rack++) {
                RackMoves room = Rooms.withMachines(1);
                room.setLimit(rack, limit);
                for (int left = limit; left > 0; left -= Math.min(99, left)) {
                    int machine = room.addMachine(1, Math.min(99, left), 0, 0);
                    Check.is("up to the limit " + limit, room.move(machine, rack), 0);
                }
                Check.is("right at the limit", room.value(10), 0);
                Check.is("one above the limit " + limit, room.move(0, rack), 4);
                Check.is("then the load is", room.rack(rack, 1), limit);
            }
        }
    }

    @Says(promise = 0, value = "Between two neighboring racks k and k + 1 there is the tray k,")
    private static void trayBetweenNeighbors() {
        for (int k = 0; k < 5; k++) {
            RackMoves room = Rooms.standing(k, k + 1);
            room.addCable(0, 1, 20);
            for (int tray = 0; tray < 5; tray++) {
                Check.is("cables in " + tray + " from " + k, room.tray(tray), tray == k ? 1 : 0);
            }
            Check.is("what it needs", room.cable(0, 3), 5);
        }
        Edges.bounds(Rooms::busy, 0, 4, Rooms.INDEX, RackMoves::tray);
    }

    @Says(promise = 0, value = "with room for 0 to 9 cables, initially 4.")
    private static void roomOfTrays() {
        for (int tray = 0; tray < 5; tray++) {
            Check.is("room of " + tray, new RackMoves().setTray(tray, 0), 4);
            Check.is("4 cables at first", across(tray, 4, 4).move(1, tray + 1), 0);
            Check.is("5 cables at first", across(tray, 4, 5).move(1, tray + 1), 5);
            for (int most = 0; most <= 9; most++) {
                Check.is(most + " cables", across(tray, most, most).move(1, tray + 1), 0);
                Check.is(most + " cables and one", across(tray, most, most + 1).move(1, tray + 1), 5);
            }
        }
    }

    /** So many cables, which go through the tray when machine 1 moves to its far side. */
    private static RackMoves across(int tray, int most, int cables) {
        RackMoves room = Rooms.standing(tray, NONE);
        if (most != 4) {
            room.setTray(tray, most);
        }
        for (int i = 0; i < cables; i++) {
            room.addCable(i % 2, 1 - i % 2, 5);
        }
        return room;
    }

    @Says(promise = 0, value = "There are three phases, 0 to 2.")
    private static void threePhases() {
        Edges.bounds(Rooms::busy, 0, 2, Rooms.ARGUMENT, (room, phase) -> room.addMachine(1, 1, phase, 0));
        for (int phase = 0; phase < 3; phase++) {
            RackMoves room = new RackMoves();
            room.addMachine(1, 7, phase, 0);
            room.move(0, 0);
            for (int each = 0; each < 3; each++) {
                Check.is("load of phase " + each, room.value(6 + each), each == phase ? 7 : 0);
            }
        }
    }

    @Says(promise = 0, value = "The level is 0 to 500, initially 100:")
    private static void levelAtFirst() {
        RackMoves room = new RackMoves();
        Check.is("level", room.value(5), 100);
        Check.is("level when it is set", room.setLevel(500), 100);
        Check.is("set to 0", room.setLevel(0), 500);
        Check.is("level", room.value(5), 0);
        room.addMachine(1, 99, 1, 0);
        room.addMachine(1, 1, 1, 0);
        room.addMachine(1, 1, 1, 0);
        room.setLevel(100);
        Check.is("99", room.move(0, 0), 0);
        Check.is("100", room.move(1, 1), 0);
        Check.is("101", room.move(2, 2), 7);
    }

    @Says(promise = 0, value = "the greatest difference that is allowed")
    private static void levelIsTheGreatestDifference() {
        for (int level : new int[] {0, 1, 2, 98, 99, 100, 101, 499, 500}) {
            RackMoves room = new RackMoves();
            room.setLevel(level);
            room.addMachine(1, 1, 2, 0);
            for (int left = level; left > 0; left -= Math.min(99, left)) {
                int machine = room.addMachine(1, Math.min(99, left), 2, 0);
                Check.is("up to the level " + level, room.move(machine, machine % 6), 0);
            }
            Check.is("right at the level", room.value(10), 0);
            Check.is("one above the level " + level, room.move(0, 5), 7);
            Check.is("then the difference is", room.value(9), level);
        }
    }

    @Says(promise = 0, value = "between the load of the phase with the most and that with the least.")
    private static void mostAndLeast() {
        int[][] orders = {{70, 30, 10}, {70, 10, 30}, {30, 70, 10}, {10, 70, 30}, {30, 10, 70}, {10, 30, 70}};
        for (int[] loads : orders) {
            RackMoves room = new RackMoves();
            for (int phase = 0; phase < 3; phase++) {
                room.addMachine(1, loads[phase], phase, 0);
                room.move(phase, phase);
            }
            Check.is("difference", room.value(9), 60);
            room.setLevel(60);
            Check.is("level", room.value(10), 0);
            room.setLevel(59);
            Check.is("not level", room.value(10), 7);
        }
    }

    // Machines.

    @Says(promise = 0, value = "There are at most 12 machines, numbered from 0.")
    private static void twelveMachines() {
        RackMoves room = new RackMoves();
        for (int machine = 0; machine < 12; machine++) {
            Check.is("number", room.addMachine(1, 1, 0, 0), machine);
            Check.is("how many", room.value(0), machine + 1);
        }
        Check.same("a 13th", Check.thrownBy(() -> room.addMachine(1, 1, 0, 0)), Rooms.STATE);
        Check.is("how many then", room.value(0), 12);
        Check.is("the 12th can be moved", room.move(11, 0), 0);
    }

    @Says(promise = 0, value = "A machine has a size, 1 to 4 slots, a load, 1 to 99, a phase, and a team, 0 to 3.")
    private static void whatMachinesHave() {
        int[][] machines = {{1, 1, 0, 0}, {4, 99, 2, 3}, {2, 98, 1, 2}, {3, 2, 0, 1}};
        RackMoves room = Rooms.withMachines(0);
        for (int[] each : machines) {
            int machine = room.addMachine(each[0], each[1], each[2], each[3]);
            for (int what = 0; what < 4; what++) {
                Check.is("what " + what, room.machine(machine, what), each[what]);
            }
            room.move(machine, 3);
            Check.is("its slots", room.rack(3, 6), 10 - each[0]);
            Check.is("its load", room.rack(3, 1), each[1]);
            Check.is("its phase", room.value(6 + each[2]), each[1]);
            room.addFreeze(each[3], room.value(4), 1);
            Check.is("its team", room.move(machine, NONE), 1);
            room.pass(1);
            room.move(machine, NONE);
        }
    }

    @Says(promise = 0, value = "It stands in a rack, from its lowest slot upward, or is in the store;")
    private static void fromItsLowestSlotUpward() {
        for (int size = 1; size <= 4; size++) {
            RackMoves room = Rooms.standing(2, 2, 2);
            int machine = room.addMachine(size, 1, 0, 0);
            Check.is("rack in the store", room.machine(machine, 4), NONE);
            Check.is("slot in the store", room.machine(machine, 5), NONE);
            Check.is("move", room.move(machine, 2), 0);
            Check.is("lowest slot", room.machine(machine, 5), 3);
            for (int slot = 3; slot < 10; slot++) {
                Check.is("size " + size + " in " + slot, room.slot(2, slot), slot < 3 + size ? machine : NONE);
            }
            Check.is("the slot below", room.slot(2, 2), 2);
        }
    }

    @Says(promise = 0, value = "in the store it has no load, but keeps its phase.")
    private static void inTheStore() {
        RackMoves room = new RackMoves();
        room.addMachine(2, 40, 2, 0);
        Check.is("load of its phase at first", room.value(8), 0);
        room.move(0, 4);
        Check.is("load of its phase", room.value(8), 40);
        Check.is("load of its rack", room.rack(4, 4), 40);
        room.change(0, 1);
        room.move(0, NONE);
        for (int what = 6; what <= 9; what++) {
            Check.is("value(" + what + ") then", room.value(what), 0);
        }
        for (int what = 1; what <= 5; what++) {
            Check.is("rack(4, " + what + ") then", room.rack(4, what), 0);
        }
        Check.is("its phase", room.machine(0, 2), 1);
        Check.is("its own load is what it was", room.machine(0, 1), 40);
        Check.is("back again", room.move(0, 0), 0);
        Check.is("its phase", room.rack(0, 3), 40);
    }

    // Cables.

    @Says(promise = 0, value = "There are at most 10 cables, numbered from 0;")
    private static void tenCables() {
        RackMoves room = Rooms.withMachines(2);
        for (int cable = 0; cable < 10; cable++) {
            Check.is("number", room.addCable(0, 1, 1 + cable), cable);
            Check.is("how many", room.value(2), cable + 1);
        }
        Check.same("an 11th", Check.thrownBy(() -> room.addCable(0, 1, 1)), Rooms.STATE);
        Check.is("how many then", room.value(2), 10);
        room.removeCable(0);
        Check.is("number when one is removed", room.addCable(1, 0, 20), 9);
        Check.is("its length", room.cable(9, 2), 20);
    }

    @Says(promise = 0, value = "a cable joins two different machines, and has a length, 1 to 20.")
    private static void cablesJoinTwoMachines() {
        RackMoves room = Rooms.withMachines(12);
        Check.is("the first and the last", room.addCable(0, 11, 1), 0);
        Check.is("the last and the first", room.addCable(11, 0, 20), 1);
        Check.is("one", room.cable(1, 0), 11);
        Check.is("other", room.cable(1, 1), 0);
        for (int machine = 0; machine < 12; machine++) {
            int each = machine;
            Check.same("one machine", Check.thrownBy(() -> room.addCable(each, each, 5)), Rooms.ARGUMENT);
        }
        Edges.bounds(Rooms::busy, 1, 20, Rooms.ARGUMENT, (busy, length) -> busy.addCable(0, 1, length));
    }

    @Says(promise = 0, value = {"If both stand, in the racks a and b, it goes through the trays between them,",
        "and needs 2 plus 3 for each of these trays;"})
    private static void traysBetween() {
        for (int a = 0; a < 6; a++) {
            for (int b = 0; b < 6; b++) {
                RackMoves room = Rooms.standing(a, b);
                room.addCable(0, 1, 20);
                int trays = 0;
                for (int tray = 0; tray < 5; tray++) {
                    boolean between = a <= tray && tray < b || b <= tray && tray < a;
                    Check.is("tray " + tray + " from " + a + " to " + b, room.tray(tray), between ? 1 : 0);
                    trays += between ? 1 : 0;
                }
                Check.is("need from " + a + " to " + b, room.cable(0, 3), 2 + 3 * trays);
            }
        }
    }

    @Says(promise = 0, value = "its length must be at least that.")
    private static void lengthAtLeast() {
        for (int distance = 0; distance < 6; distance++) {
            int need = 2 + 3 * distance;
            for (int length = 1; length <= 20; length++) {
                RackMoves room = Rooms.standing(0, NONE);
                room.addCable(0, 1, length);
                Check.is(length + " for " + need, room.move(1, distance), length < need ? 6 : 0);
                RackMoves mirrored = Rooms.standing(5, NONE);
                mirrored.addCable(1, 0, length);
                Check.is(length + " for " + need, mirrored.move(1, 5 - distance), length < need ? 6 : 0);
            }
        }
    }

    @Says(promise = 0, value = "A cable with a machine in the store is coiled up, and needs nothing.")
    private static void coiledUp() {
        for (int[] racks : new int[][] {{NONE, NONE}, {0, NONE}, {NONE, 5}, {3, NONE}}) {
            RackMoves room = Rooms.standing(racks);
            room.addCable(0, 1, 1);
            for (int tray = 0; tray < 5; tray++) {
                room.setTray(tray, 0);
                Check.is("cables in tray " + tray, room.tray(tray), 0);
            }
            Check.is("it needs", room.cable(0, 3), 0);
            Check.is("it is in no one's way", room.value(10), 0);
        }
    }

    // Freezes.

    @Says(promise = 0, value = "There are at most 6 freezes, numbered from 0:")
    private static void sixFreezes() {
        RackMoves room = new RackMoves();
        for (int freeze = 0; freeze < 6; freeze++) {
            Check.is("number", room.addFreeze(0, 0, 1), freeze);
            Check.is("how many", room.value(3), freeze + 1);
        }
        Check.same("a 7th", Check.thrownBy(() -> room.addFreeze(0, 0, 1)), Rooms.STATE);
        Check.is("how many then", room.value(3), 6);
        room.removeFreeze(5);
        Check.is("number when one is removed", room.addFreeze(0, 0, 1), 5);
    }

    @Says(promise = 0, value = "a team, and the hours from its first one to the one before its end,")
    private static void hoursOfAFreeze() {
        int[][] freezes = {{0, 1}, {0, 2}, {1, 1}, {3, 2}, {7, 99}, {999, 1}, {999, 99}, {998, 2}};
        for (int[] each : freezes) {
            int end = each[0] + each[1];
            for (int hour : new int[] {0, each[0] - 1, each[0], each[0] + 1, end - 1, end, end + 1, 2000}) {
                if (hour >= 0) {
                    RackMoves room = Rooms.at(hour);
                    room.addFreeze(2, each[0], each[1]);
                    for (int team = 0; team < 4; team++) {
                        room.addMachine(1, 1, 0, team);
                        int due = team == 2 && hour >= each[0] && hour < end ? 1 : 0;
                        Check.is("team " + team + " at " + hour, room.machine(team, 6), due);
                    }
                }
            }
        }
    }

    @Says(promise = 0, value = "in which nothing of the team may be moved or changed.")
    private static void frozenTeam() {
        RackMoves room = Rooms.standing(0, NONE);
        room.addMachine(1, 1, 0, 1);
        room.addFreeze(0, 0, 1);
        room.addFreeze(0, 1, 1);
        for (int hour = 0; hour < 2; hour++) {
            Check.is("to another rack", room.move(0, 1), 1);
            Check.is("to the store", room.move(0, NONE), 1);
            Check.is("from the store", room.move(1, 1), 1);
            Check.is("a phase", room.change(0, 2), 1);
            Check.is("a phase in the store", room.change(1, 2), 1);
            Check.is("backing out", room.backOut(), 1);
            Check.is("another team's", room.mayMove(2, 1), 0);
            room.pass(1);
        }
        Check.is("behind the end", room.move(0, 1), 0);
        Check.is("behind the end", room.change(0, 2), 0);
    }

    @Says(promise = 0, value = "The hour is 0 at first.")
    private static void hourAtFirst() {
        RackMoves room = new RackMoves();
        Check.is("hour", room.value(4), 0);
        room.addMachine(1, 1, 0, 0);
        room.addFreeze(0, 0, 1);
        Check.is("a freeze of the hour 0", room.move(0, 0), 1);
        Check.is("an hour behind", room.pass(1), 1);
        Check.is("then", room.move(0, 0), 0);
    }

    // The room is right.

    @Says(promise = 0, value = "The room is right if each rack's load is at most its limit,")
    private static void rightByLimits() {
        for (int rack = 0; rack < 6; rack++) {
            RackMoves room = Rooms.standing(0, 1, 2, 3, 4, 5, rack);
            room.setLimit(rack, 2);
            Check.is("at the limit of " + rack, room.value(10), 0);
            room.setLimit(rack, 1);
            Check.is("over the limit of " + rack, room.value(10), 4);
        }
        RackMoves empty = new RackMoves();
        for (int rack = 0; rack < 6; rack++) {
            empty.setLimit(rack, 0);
        }
        Check.is("no load and no limit", empty.value(10), 0);
    }

    @Says(promise = 0, value = "in each tray there are at most as many cables as it has room for,")
    private static void rightByTrays() {
        for (int tray = 0; tray < 5; tray++) {
            RackMoves room = Rooms.standing(0, 5, tray, tray + 1);
            room.addCable(0, 1, 20);
            room.addCable(2, 3, 20);
            room.setTray(tray, 2);
            Check.is("as many as in " + tray, room.value(10), 0);
            room.setTray(tray, 1);
            Check.is("more than in " + tray, room.value(10), 5);
        }
    }

    @Says(promise = 0, value = "each cable that is not coiled up is long enough,")
    private static void rightByCables() {
        for (int wrong = 0; wrong < 10; wrong++) {
            RackMoves room = Rooms.standing(2, 2, NONE);
            for (int cable = 0; cable < 10; cable++) {
                room.addCable(0, 1, cable == wrong ? 1 : 2);
            }
            Check.is("cable " + wrong + " is too short", room.value(10), 6);
            room.removeCable(wrong);
            room.addCable(0, 2, 1);
            Check.is("long enough, or coiled up", room.value(10), 0);
        }
    }

    @Says(promise = 0, value = "and the phases are level: the greatest difference is at most the level.")
    private static void rightByPhases() {
        RackMoves room = Rooms.standing(0, 1, 2);
        for (int level = 0; level < 5; level++) {
            room.setLevel(level);
            Check.is("3, 0 and 0 at level " + level, room.value(10), level < 3 ? 7 : 0);
        }
        room.change(0, 1);
        room.change(1, 2);
        room.setLevel(0);
        Check.is("1, 1 and 1 at level 0", room.value(10), 0);
        Check.is("nothing stands at level 0", newAtLevelZero().value(10), 0);
    }

    private static RackMoves newAtLevelZero() {
        RackMoves room = new RackMoves();
        room.setLevel(0);
        return room;
    }
}
