/** A machine room in which machines are moved from rack to rack; ../shared/DOC.md says what it does. */
public final class RackMoves {
    public static final int NONE = -1;

    private static final int RACKS = 6;
    private static final int SLOTS = 10;
    private static final int TRAYS = 5;
    private static final int PHASES = 3;
    private static final int LAST_TEAM = 3;

    private static final int MOST_MACHINES = 12;
    private static final int MOST_CABLES = 10;
    private static final int MOST_FREEZES = 6;
    private static final int MOST_STEPS = 20;
    private static final int MOST_SAVED = 4;
    private static final int MOST_BYTES = 90;
    /** The shortest part of a plan, "h;", has two bytes. */
    private static final int MOST_PARTS = MOST_BYTES / 2;

    private static final int GREATEST_LIMIT = 500;
    private static final int GREATEST_TRAY = 9;
    private static final int GREATEST_LEVEL = 500;
    private static final int GREATEST_SIZE = 4;
    private static final int GREATEST_LOAD = 99;
    private static final int GREATEST_LENGTH = 20;
    private static final int GREATEST_FIRST = 999;
    private static final int GREATEST_HOURS = 99;
    private static final int GREATEST_BYTE = 127;
    private static final int LAST_HOUR = 2000;

    private static final int FIRST_LIMIT = 200;
    private static final int FIRST_TRAY = 4;
    private static final int FIRST_LEVEL = 100;

    private static final int CABLE_BASE = 2;
    private static final int CABLE_PER_TRAY = 3;

    /** The columns of the machines' table; machine() tells them by the same numbers. */
    private static final int SIZE = 0;
    private static final int LOAD = 1;
    private static final int PHASE = 2;
    private static final int TEAM = 3;
    private static final int RACK = 4;
    private static final int SLOT = 5;
    private static final int MACHINE_COLUMNS = 6;
    private static final int MACHINE_FROZEN = 6;
    private static final int MACHINE_CABLES = 7;

    /** The columns of the cables' table; cable() tells them by the same numbers. */
    private static final int ONE = 0;
    private static final int OTHER = 1;
    private static final int LENGTH = 2;
    private static final int CABLE_COLUMNS = 3;
    private static final int CABLE_NEED = 3;

    /** The columns of the freezes' table. */
    private static final int FREEZE_TEAM = 0;
    private static final int FREEZE_FIRST = 1;
    private static final int FREEZE_HOURS = 2;
    private static final int FREEZE_COLUMNS = 3;

    /** The columns of the pile of steps, oldest step first; pile() tells them by the same numbers. */
    private static final int STEP_MACHINE = 0;
    private static final int STEP_RACK = 1;
    private static final int STEP_SLOT = 2;
    private static final int STEP_PHASE = 3;
    private static final int STEP_COLUMNS = 4;

    /** The columns of the parts of a plan. */
    private static final int PART_KIND = 0;
    private static final int PART_MACHINE = 1;
    private static final int PART_TARGET = 2;
    private static final int PART_COLUMNS = 3;

    private static final int LAST_OF_RACK = 7;
    private static final int LAST_OF_VALUE = 13;

    /** What makes a step, or backing out, impossible. */
    private static final int POSSIBLE = 0;
    private static final int FROZEN = 1;
    private static final int NOTHING_TO_DO = 2;
    private static final int NO_SLOTS = 3;
    private static final int OVER_LIMIT = 4;
    private static final int OVER_TRAY = 5;
    private static final int SHORT_CABLE = 6;
    private static final int OVER_LEVEL = 7;

    /** What plan() answers if it is not done. */
    private static final int SYNTAX_ERROR = -10;
    private static final int STEP_IMPOSSIBLE = -1000;
    private static final int HOUR_TOO_LATE = -9999;

    private static final long DIGEST_START = 3511L;
    private static final long DIGEST_FACTOR = 31L;

    private Room room = new Room();
    /** A second room to try things in; it holds nothing between two calls. */
    private Room spare = new Room();
    /** The saved states, oldest first; those from savedCount on are rooms to be used again. */
    private final Room[] saved = new Room[MOST_SAVED];
    private int savedCount = 0;
    private final PlanText text = new PlanText();

    public RackMoves() {
        for (int i = 0; i < MOST_SAVED; i++) {
            saved[i] = new Room();
        }
    }

    // ---- room

    public int setLimit(int rack, int limit) throws IndexOutOfBoundsException, IllegalArgumentException {
        checkRack(rack);
        checkRange(limit, 0, GREATEST_LIMIT);
        save();
        int previous = room.limits[rack];
        room.limits[rack] = limit;
        return previous;
    }

    public int setTray(int tray, int room) throws IndexOutOfBoundsException, IllegalArgumentException {
        checkTray(tray);
        checkRange(room, 0, GREATEST_TRAY);
        save();
        int previous = this.room.trayRooms[tray];
        this.room.trayRooms[tray] = room;
        return previous;
    }

    public int setLevel(int level) throws IllegalArgumentException {
        checkRange(level, 0, GREATEST_LEVEL);
        save();
        int previous = room.level;
        room.level = level;
        return previous;
    }

    public int addMachine(int size, int load, int phase, int team)
            throws IllegalArgumentException, IllegalStateException {
        checkRange(size, 1, GREATEST_SIZE);
        checkRange(load, 1, GREATEST_LOAD);
        checkRange(phase, 0, PHASES - 1);
        checkRange(team, 0, LAST_TEAM);
        checkSpace(room.machines);
        save();
        int machine = room.machines.addRow();
        room.machines.put(machine, SIZE, size);
        room.machines.put(machine, LOAD, load);
        room.machines.put(machine, TEAM, team);
        room.place(machine, NONE, NONE, phase);
        return machine;
    }

    public int addCable(int one, int other, int length)
            throws IndexOutOfBoundsException, IllegalArgumentException, IllegalStateException {
        checkMachine(one);
        checkMachine(other);
        if (one == other) {
            throw new IllegalArgumentException("a cable joins two different machines");
        }
        checkRange(length, 1, GREATEST_LENGTH);
        checkSpace(room.cables);
        save();
        int cable = room.cables.addRow();
        room.cables.put(cable, ONE, one);
        room.cables.put(cable, OTHER, other);
        room.cables.put(cable, LENGTH, length);
        return cable;
    }

    public int removeCable(int cable) throws IndexOutOfBoundsException {
        checkCable(cable);
        save();
        room.cables.removeRow(cable);
        return room.cables.count;
    }

    public int addFreeze(int team, int first, int hours) throws IllegalArgumentException, IllegalStateException {
        checkRange(team, 0, LAST_TEAM);
        checkRange(first, 0, GREATEST_FIRST);
        checkRange(hours, 1, GREATEST_HOURS);
        checkSpace(room.freezes);
        save();
        int freeze = room.freezes.addRow();
        room.freezes.put(freeze, FREEZE_TEAM, team);
        room.freezes.put(freeze, FREEZE_FIRST, first);
        room.freezes.put(freeze, FREEZE_HOURS, hours);
        return freeze;
    }

    public int removeFreeze(int freeze) throws IndexOutOfBoundsException {
        if (!room.freezes.hasRow(freeze)) {
            throw new IndexOutOfBoundsException("no such freeze");
        }
        save();
        room.freezes.removeRow(freeze);
        return room.freezes.count;
    }

    public int pass(int hours) throws IllegalArgumentException, IllegalStateException {
        checkRange(hours, 1, GREATEST_HOURS);
        if (room.hour + hours > LAST_HOUR) {
            throw new IllegalStateException("the hour would be too great");
        }
        save();
        room.hour += hours;
        return room.hour;
    }

    public int machine(int machine, int what) throws IndexOutOfBoundsException, IllegalArgumentException {
        checkMachine(machine);
        checkRange(what, 0, MACHINE_CABLES);
        if (what == MACHINE_CABLES) {
            return room.cablesOf(machine);
        }
        if (what == MACHINE_FROZEN) {
            return room.isFrozen(machine) ? 1 : 0;
        }
        return room.machines.at(machine, what);
    }

    public int rack(int rack, int what) throws IndexOutOfBoundsException, IllegalArgumentException {
        checkRack(rack);
        checkRange(what, 0, LAST_OF_RACK);
        switch (what) {
            case 0:
                return room.limits[rack];
            case 1:
                return room.loadOfRack(rack);
            case 5:
                return room.machinesIn(rack);
            case 6:
                return SLOTS - room.slotsTakenIn(rack);
            case 7:
                return room.greatestSizeFor(rack);
            default:
                return room.loadOfRackOnPhase(rack, what - 2);
        }
    }

    public int slot(int rack, int slot) throws IndexOutOfBoundsException {
        checkRack(rack);
        if (slot < 0 || slot >= SLOTS) {
            throw new IndexOutOfBoundsException("no such slot");
        }
        return room.machineAt(rack, slot);
    }

    public int cable(int cable, int what) throws IndexOutOfBoundsException, IllegalArgumentException {
        checkCable(cable);
        checkRange(what, 0, CABLE_NEED);
        return what == CABLE_NEED ? room.needOfCable(cable) : room.cables.at(cable, what);
    }

    public int tray(int tray) throws IndexOutOfBoundsException {
        checkTray(tray);
        return room.cablesInTray(tray);
    }

    public int value(int what) throws IllegalArgumentException {
        checkRange(what, 0, LAST_OF_VALUE);
        switch (what) {
            case 0:
                return room.machines.count;
            case 1:
                return room.machinesStanding();
            case 2:
                return room.cables.count;
            case 3:
                return room.freezes.count;
            case 4:
                return room.hour;
            case 5:
                return room.level;
            case 9:
                return room.difference();
            case 10:
                return room.firstWrong();
            case 11:
                return room.steps.count;
            case 12:
                return room.stepsDone;
            case 13:
                return room.stepsBackedOut;
            default:
                return room.loadOfPhase(what - 6);
        }
    }

    // ---- steps

    public int move(int machine, int rack) throws IndexOutOfBoundsException, IllegalArgumentException {
        checkMachine(machine);
        checkRange(rack, NONE, RACKS - 1);
        int why = room.whyNotMove(machine, rack);
        if (why == POSSIBLE) {
            save();
            room.doMove(machine, rack);
        }
        return why;
    }

    public int change(int machine, int phase) throws IndexOutOfBoundsException, IllegalArgumentException {
        checkMachine(machine);
        checkRange(phase, 0, PHASES - 1);
        int why = room.whyNotChange(machine, phase);
        if (why == POSSIBLE) {
            save();
            room.doChange(machine, phase);
        }
        return why;
    }

    public int backOut() {
        int why = room.whyNotBackOut();
        if (why == POSSIBLE) {
            save();
            room.doBackOut();
        }
        return why;
    }

    public int pile(int index, int what) throws IndexOutOfBoundsException, IllegalArgumentException {
        if (index < 0) {
            throw new IndexOutOfBoundsException("a negative index");
        }
        checkRange(what, 0, STEP_COLUMNS - 1);
        return room.steps.at(room.steps.count - 1 - index, what);
    }

    // ---- what if

    public int mayMove(int machine, int rack) throws IndexOutOfBoundsException, IllegalArgumentException {
        checkMachine(machine);
        checkRange(rack, NONE, RACKS - 1);
        return room.whyNotMove(machine, rack);
    }

    public int bestRack(int machine) throws IndexOutOfBoundsException {
        checkMachine(machine);
        int best = NONE;
        int least = 0;
        for (int rack = 0; rack < RACKS; rack++) {
            if (room.whyNotMove(machine, rack) == POSSIBLE) {
                int fullest = room.fullestLoadWith(machine, rack);
                if (best == NONE || fullest < least) {
                    best = rack;
                    least = fullest;
                }
            }
        }
        return best;
    }

    public int bestChange() {
        int best = NONE;
        int least = room.difference();
        for (int machine = 0; machine < room.machines.count; machine++) {
            for (int phase = 0; phase < PHASES; phase++) {
                int difference = room.differenceWith(machine, phase);
                if (difference < least && room.whyNotChange(machine, phase) == POSSIBLE) {
                    best = PHASES * machine + phase;
                    least = difference;
                }
            }
        }
        return best;
    }

    public int backable() {
        spare.copyFrom(room);
        int count = 0;
        while (count < MOST_STEPS && spare.whyNotBackOut() == POSSIBLE) {
            spare.doBackOut();
            count++;
        }
        return count;
    }

    public double taken() {
        int slots = 0;
        for (int rack = 0; rack < RACKS; rack++) {
            slots += room.slotsTakenIn(rack);
        }
        return (double) slots / 60.0;
    }

    // ---- plan

    public int append(int value) throws IllegalArgumentException, IllegalStateException {
        checkRange(value, 0, GREATEST_BYTE);
        if (text.length >= MOST_BYTES) {
            throw new IllegalStateException("the text is full");
        }
        text.bytes[text.length] = value;
        text.length++;
        return text.length;
    }

    public int clearText() {
        int length = text.length;
        text.length = 0;
        return length;
    }

    public int plan() {
        int error = text.read(room.machines.count);
        if (error != PlanText.NO_ERROR) {
            return SYNTAX_ERROR - error;
        }
        spare.copyFrom(room);
        int answer = text.runIn(spare);
        if (answer >= 0) {
            save();
            Room before = room;
            room = spare;
            spare = before;
        }
        return answer;
    }

    // ---- state

    public int undo() throws IllegalStateException {
        if (savedCount <= 0) {
            throw new IllegalStateException("no saved state");
        }
        savedCount--;
        Room present = room;
        room = saved[savedCount];
        saved[savedCount] = present;
        return savedCount;
    }

    public long digest() {
        long hash = mix(DIGEST_START, text.length);
        for (int what = 0; what <= LAST_OF_VALUE; what++) {
            hash = mix(hash, value(what));
        }
        for (int rack = 0; rack < RACKS; rack++) {
            hash = mixRack(hash, rack);
        }
        for (int tray = 0; tray < TRAYS; tray++) {
            hash = mix(hash, tray(tray));
        }
        for (int machine = 0; machine < room.machines.count; machine++) {
            for (int what = 0; what <= MACHINE_CABLES; what++) {
                hash = mix(hash, machine(machine, what));
            }
        }
        for (int cable = 0; cable < room.cables.count; cable++) {
            for (int what = 0; what <= CABLE_NEED; what++) {
                hash = mix(hash, cable(cable, what));
            }
        }
        for (int index = 0; index < room.steps.count; index++) {
            for (int what = 0; what < STEP_COLUMNS; what++) {
                hash = mix(hash, pile(index, what));
            }
        }
        return mix(hash, savedCount);
    }

    private long mixRack(long start, int rack) {
        long hash = start;
        for (int what = 0; what <= LAST_OF_RACK; what++) {
            hash = mix(hash, rack(rack, what));
        }
        for (int slot = 0; slot < SLOTS; slot++) {
            hash = mix(hash, slot(rack, slot));
        }
        return hash;
    }

    private static long mix(long hash, int value) {
        return DIGEST_FACTOR * hash + value;
    }

    /** Saves the present state; when all places are taken, the oldest one's room is used again. */
    private void save() {
        if (savedCount >= MOST_SAVED) {
            Room oldest = saved[0];
            for (int i = 1; i < MOST_SAVED; i++) {
                saved[i - 1] = saved[i];
            }
            saved[MOST_SAVED - 1] = oldest;
            savedCount = MOST_SAVED - 1;
        }
        saved[savedCount].copyFrom(room);
        savedCount++;
    }

    private void checkMachine(int machine) {
        if (!room.machines.hasRow(machine)) {
            throw new IndexOutOfBoundsException("no such machine");
        }
    }

    private void checkCable(int cable) {
        if (!room.cables.hasRow(cable)) {
            throw new IndexOutOfBoundsException("no such cable");
        }
    }

    private static void checkRack(int rack) {
        if (rack < 0 || rack >= RACKS) {
            throw new IndexOutOfBoundsException("no such rack");
        }
    }

    private static void checkTray(int tray) {
        if (tray < 0 || tray >= TRAYS) {
            throw new IndexOutOfBoundsException("no such tray");
        }
    }

    private static void checkRange(int value, int least, int greatest) {
        if (value < least || value > greatest) {
            throw new IllegalArgumentException("an argument is out of range");
        }
    }

    private static void checkSpace(Table table) {
        if (table.isFull()) {
            throw new IllegalStateException("there are as many as there may be");
        }
    }

    /** Rows of numbers in one array, so that a copy of them all is one copy of an array. */
    private static final class Table {
        final int most;
        final int columns;
        final int[] cells;
        int count = 0;

        /** The arguments are constants of this file, all above 0. */
        Table(int most, int columns) {
            this.most = most;
            this.columns = columns;
            this.cells = new int[most * columns];
        }

        boolean hasRow(int row) {
            return row >= 0 && row < count;
        }

        boolean isFull() {
            return count >= most;
        }

        /** The number in a cell; NONE if there is no such row or column. */
        int at(int row, int column) {
            if (row < 0 || row >= count || column < 0 || column >= columns) {
                return NONE;
            }
            return cells[row * columns + column];
        }

        void put(int row, int column, int number) {
            if (row >= 0 && row < count && column >= 0 && column < columns) {
                cells[row * columns + column] = number;
            }
        }

        /** Adds a row, whose cells are free to be anything until they are put; NONE if the table is full. */
        int addRow() {
            if (isFull()) {
                return NONE;
            }
            count++;
            return count - 1;
        }

        void removeRow(int row) {
            if (hasRow(row)) {
                count--;
                for (int cell = row * columns; cell < count * columns; cell++) {
                    cells[cell] = cells[cell + columns];
                }
            }
        }

        /** The other table has as many cells: only tables of the same kind are copied. */
        void copyFrom(Table other) {
            if (other.cells.length == cells.length) {
                System.arraycopy(other.cells, 0, cells, 0, cells.length);
                count = other.count;
            }
        }
    }

    /** All that a saved state holds: the whole state but for the plan text. */
    private static final class Room {
        final Table machines = new Table(MOST_MACHINES, MACHINE_COLUMNS);
        final Table cables = new Table(MOST_CABLES, CABLE_COLUMNS);
        final Table freezes = new Table(MOST_FREEZES, FREEZE_COLUMNS);
        final Table steps = new Table(MOST_STEPS, STEP_COLUMNS);
        final int[] limits = new int[RACKS];
        final int[] trayRooms = new int[TRAYS];
        int level = FIRST_LEVEL;
        int hour = 0;
        int stepsDone = 0;
        int stepsBackedOut = 0;

        Room() {
            for (int rack = 0; rack < RACKS; rack++) {
                limits[rack] = FIRST_LIMIT;
            }
            for (int tray = 0; tray < TRAYS; tray++) {
                trayRooms[tray] = FIRST_TRAY;
            }
        }

        void copyFrom(Room other) {
            machines.copyFrom(other.machines);
            cables.copyFrom(other.cables);
            freezes.copyFrom(other.freezes);
            steps.copyFrom(other.steps);
            System.arraycopy(other.limits, 0, limits, 0, RACKS);
            System.arraycopy(other.trayRooms, 0, trayRooms, 0, TRAYS);
            level = other.level;
            hour = other.hour;
            stepsDone = other.stepsDone;
            stepsBackedOut = other.stepsBackedOut;
        }

        // What stands where.

        boolean standsIn(int machine, int rack) {
            return machines.at(machine, RACK) == rack;
        }

        int machinesStanding() {
            int standing = 0;
            for (int machine = 0; machine < machines.count; machine++) {
                if (!standsIn(machine, NONE)) {
                    standing++;
                }
            }
            return standing;
        }

        int machinesIn(int rack) {
            int inside = 0;
            for (int machine = 0; machine < machines.count; machine++) {
                if (standsIn(machine, rack)) {
                    inside++;
                }
            }
            return inside;
        }

        int slotsTakenIn(int rack) {
            int slots = 0;
            for (int machine = 0; machine < machines.count; machine++) {
                if (standsIn(machine, rack)) {
                    slots += machines.at(machine, SIZE);
                }
            }
            return slots;
        }

        int machineAt(int rack, int slot) {
            return machineWithin(rack, slot, 1, NONE);
        }

        /** A machine, but not the own one, in some of these slots; NONE if they are free. */
        int machineWithin(int rack, int lowest, int size, int own) {
            for (int machine = 0; machine < machines.count; machine++) {
                if (machine != own && standsIn(machine, rack)) {
                    int start = machines.at(machine, SLOT);
                    int end = start + machines.at(machine, SIZE);
                    if (start < lowest + size && lowest < end) {
                        return machine;
                    }
                }
            }
            return NONE;
        }

        int lowestSlotFor(int rack, int size) {
            for (int lowest = 0; lowest + size <= SLOTS; lowest++) {
                if (machineWithin(rack, lowest, size, NONE) == NONE) {
                    return lowest;
                }
            }
            return NONE;
        }

        int greatestSizeFor(int rack) {
            for (int size = GREATEST_SIZE; size > 0; size--) {
                if (lowestSlotFor(rack, size) != NONE) {
                    return size;
                }
            }
            return 0;
        }

        // Loads.

        int loadOfRack(int rack) {
            int load = 0;
            for (int machine = 0; machine < machines.count; machine++) {
                if (standsIn(machine, rack)) {
                    load += machines.at(machine, LOAD);
                }
            }
            return load;
        }

        int loadOfRackOnPhase(int rack, int phase) {
            int load = 0;
            for (int machine = 0; machine < machines.count; machine++) {
                if (standsIn(machine, rack) && machines.at(machine, PHASE) == phase) {
                    load += machines.at(machine, LOAD);
                }
            }
            return load;
        }

        int loadOfPhase(int phase) {
            int load = 0;
            for (int machine = 0; machine < machines.count; machine++) {
                if (machines.at(machine, PHASE) == phase && machines.at(machine, RACK) != NONE) {
                    load += machines.at(machine, LOAD);
                }
            }
            return load;
        }

        int difference() {
            int greatest = loadOfPhase(0);
            int least = greatest;
            for (int phase = 1; phase < PHASES; phase++) {
                int load = loadOfPhase(phase);
                greatest = Math.max(greatest, load);
                least = Math.min(least, load);
            }
            return greatest - least;
        }

        int differenceWith(int machine, int phase) {
            int before = machines.at(machine, PHASE);
            machines.put(machine, PHASE, phase);
            int difference = difference();
            machines.put(machine, PHASE, before);
            return difference;
        }

        /** The load of the fullest rack if the machine stood in this one. */
        int fullestLoadWith(int machine, int rack) {
            int moved = machines.at(machine, LOAD);
            int fullest = 0;
            for (int each = 0; each < RACKS; each++) {
                int load = loadOfRack(each);
                if (standsIn(machine, each)) {
                    load -= moved;
                }
                if (each == rack) {
                    load += moved;
                }
                fullest = Math.max(fullest, load);
            }
            return fullest;
        }

        // Cables and freezes.

        int cablesOf(int machine) {
            int joined = 0;
            for (int cable = 0; cable < cables.count; cable++) {
                if (cables.at(cable, ONE) == machine || cables.at(cable, OTHER) == machine) {
                    joined++;
                }
            }
            return joined;
        }

        private int rackOfEnd(int cable, int end) {
            return machines.at(cables.at(cable, end), RACK);
        }

        /** What a cable needs; 0 if it is coiled up. */
        int needOfCable(int cable) {
            int one = rackOfEnd(cable, ONE);
            int other = rackOfEnd(cable, OTHER);
            if (one == NONE || other == NONE) {
                return 0;
            }
            return CABLE_BASE + CABLE_PER_TRAY * Math.abs(one - other);
        }

        int cablesInTray(int tray) {
            int inside = 0;
            for (int cable = 0; cable < cables.count; cable++) {
                int one = rackOfEnd(cable, ONE);
                int other = rackOfEnd(cable, OTHER);
                boolean coiled = one == NONE || other == NONE;
                if (!coiled && Math.min(one, other) <= tray && tray < Math.max(one, other)) {
                    inside++;
                }
            }
            return inside;
        }

        boolean isFrozen(int machine) {
            int team = machines.at(machine, TEAM);
            for (int freeze = 0; freeze < freezes.count; freeze++) {
                int first = freezes.at(freeze, FREEZE_FIRST);
                int end = first + freezes.at(freeze, FREEZE_HOURS);
                if (freezes.at(freeze, FREEZE_TEAM) == team && first <= hour && hour < end) {
                    return true;
                }
            }
            return false;
        }

        // What is wrong, and what makes a step impossible.

        int firstWrong() {
            for (int rack = 0; rack < RACKS; rack++) {
                if (loadOfRack(rack) > limits[rack]) {
                    return OVER_LIMIT;
                }
            }
            for (int tray = 0; tray < TRAYS; tray++) {
                if (cablesInTray(tray) > trayRooms[tray]) {
                    return OVER_TRAY;
                }
            }
            for (int cable = 0; cable < cables.count; cable++) {
                if (needOfCable(cable) > cables.at(cable, LENGTH)) {
                    return SHORT_CABLE;
                }
            }
            return difference() > level ? OVER_LEVEL : POSSIBLE;
        }

        int whyNotMove(int machine, int rack) {
            if (isFrozen(machine)) {
                return FROZEN;
            }
            if (standsIn(machine, rack)) {
                return NOTHING_TO_DO;
            }
            int slot = slotBehindMove(machine, rack);
            if (rack != NONE && slot == NONE) {
                return NO_SLOTS;
            }
            return firstWrongWith(machine, rack, slot, machines.at(machine, PHASE));
        }

        int whyNotChange(int machine, int phase) {
            if (isFrozen(machine)) {
                return FROZEN;
            }
            if (machines.at(machine, PHASE) == phase) {
                return NOTHING_TO_DO;
            }
            return firstWrongWith(machine, machines.at(machine, RACK), machines.at(machine, SLOT), phase);
        }

        int whyNotBackOut() {
            if (steps.count == 0) {
                return NOTHING_TO_DO;
            }
            int latest = steps.count - 1;
            int machine = steps.at(latest, STEP_MACHINE);
            int rack = steps.at(latest, STEP_RACK);
            int slot = steps.at(latest, STEP_SLOT);
            if (isFrozen(machine)) {
                return FROZEN;
            }
            if (rack != NONE && machineWithin(rack, slot, machines.at(machine, SIZE), machine) != NONE) {
                return NO_SLOTS;
            }
            return firstWrongWith(machine, rack, slot, steps.at(latest, STEP_PHASE));
        }

        private int slotBehindMove(int machine, int rack) {
            return rack == NONE ? NONE : lowestSlotFor(rack, machines.at(machine, SIZE));
        }

        /** What would be wrong first if the machine were there; behind the call it is where it was. */
        private int firstWrongWith(int machine, int rack, int slot, int phase) {
            int rackBefore = machines.at(machine, RACK);
            int slotBefore = machines.at(machine, SLOT);
            int phaseBefore = machines.at(machine, PHASE);
            place(machine, rack, slot, phase);
            int wrong = firstWrong();
            place(machine, rackBefore, slotBefore, phaseBefore);
            return wrong;
        }

        // What is done, each only when it is possible.

        void place(int machine, int rack, int slot, int phase) {
            machines.put(machine, RACK, rack);
            machines.put(machine, SLOT, slot);
            machines.put(machine, PHASE, phase);
        }

        void doMove(int machine, int rack) {
            int slot = slotBehindMove(machine, rack);
            pushStep(machine);
            place(machine, rack, slot, machines.at(machine, PHASE));
        }

        void doChange(int machine, int phase) {
            pushStep(machine);
            machines.put(machine, PHASE, phase);
        }

        void doBackOut() {
            int latest = steps.count - 1;
            int machine = steps.at(latest, STEP_MACHINE);
            place(machine, steps.at(latest, STEP_RACK), steps.at(latest, STEP_SLOT), steps.at(latest, STEP_PHASE));
            steps.removeRow(latest);
            stepsBackedOut++;
        }

        private void pushStep(int machine) {
            if (steps.isFull()) {
                steps.removeRow(0);
            }
            int step = steps.addRow();
            steps.put(step, STEP_MACHINE, machine);
            steps.put(step, STEP_RACK, machines.at(machine, RACK));
            steps.put(step, STEP_SLOT, machines.at(machine, SLOT));
            steps.put(step, STEP_PHASE, machines.at(machine, PHASE));
            stepsDone++;
        }
    }

    /** The plan's text, and the parts that were read from it last. */
    private static final class PlanText {
        /** What byteAt tells behind the end: no byte that could stand anywhere. */
        private static final int END = -1;
        static final int NO_ERROR = -1;

        final int[] bytes = new int[MOST_BYTES];
        int length = 0;
        private final Table parts = new Table(MOST_PARTS, PART_COLUMNS);
        private int at = 0;
        private int numberRead = 0;

        /** Reads the whole text into parts. Returns the syntax error position, NO_ERROR if there is none. */
        int read(int machineCount) {
            parts.count = 0;
            at = 0;
            int error = NO_ERROR;
            // A part that was read takes bytes, so there are no more rounds than bytes.
            for (int round = 0; round < MOST_BYTES && error == NO_ERROR && at < length; round++) {
                error = readPart(machineCount);
            }
            return error;
        }

        /** Each of these readers goes on behind what it read, or returns the syntax error position. */
        private int readPart(int machineCount) {
            int kind = byteAt(at);
            if (kind != 'm' && kind != 'p' && kind != 'h') {
                return at;
            }
            at++;
            int part = parts.addRow();
            parts.put(part, PART_KIND, kind);
            int error = kind == 'h' ? NO_ERROR : readStep(part, kind == 'm', machineCount);
            return error == NO_ERROR ? readByte(';') : error;
        }

        private int readStep(int part, boolean isMove, int machineCount) {
            int error = readMachine(machineCount);
            parts.put(part, PART_MACHINE, numberRead);
            if (error == NO_ERROR) {
                error = readByte('>');
            }
            if (error == NO_ERROR) {
                error = isMove ? readRack() : readDigit(PHASES - 1);
                parts.put(part, PART_TARGET, numberRead);
            }
            return error;
        }

        private int readMachine(int machineCount) {
            int first = at;
            if (!isDigit(byteAt(at))) {
                return at;
            }
            int number = byteAt(at) - '0';
            at++;
            if (isDigit(byteAt(at))) {
                number = 10 * number + byteAt(at) - '0';
                at++;
            }
            if (isDigit(byteAt(at))) {
                return at;
            }
            numberRead = number;
            return number < machineCount ? NO_ERROR : first;
        }

        private int readRack() {
            if (byteAt(at) != 's') {
                return readDigit(RACKS - 1);
            }
            numberRead = NONE;
            at++;
            return NO_ERROR;
        }

        private int readDigit(int greatest) {
            int digit = byteAt(at) - '0';
            if (digit < 0 || digit > greatest) {
                return at;
            }
            numberRead = digit;
            at++;
            return NO_ERROR;
        }

        private int readByte(int due) {
            if (byteAt(at) != due) {
                return at;
            }
            at++;
            return NO_ERROR;
        }

        private int byteAt(int index) {
            return index >= 0 && index < length && index < MOST_BYTES ? bytes[index] : END;
        }

        private static boolean isDigit(int value) {
            return value >= '0' && value <= '9';
        }

        /** Does the parts in a room, until one is not possible. Returns what plan() answers. */
        int runIn(Room room) {
            int done = 0;
            for (int part = 0; part < parts.count; part++) {
                int kind = parts.at(part, PART_KIND);
                if (kind == 'h') {
                    if (room.hour >= LAST_HOUR) {
                        return HOUR_TOO_LATE;
                    }
                    room.hour++;
                    continue;
                }
                int machine = parts.at(part, PART_MACHINE);
                int target = parts.at(part, PART_TARGET);
                boolean isMove = kind == 'm';
                int why = isMove ? room.whyNotMove(machine, target) : room.whyNotChange(machine, target);
                if (why != POSSIBLE) {
                    return STEP_IMPOSSIBLE - 10 * done - why;
                }
                if (isMove) {
                    room.doMove(machine, target);
                } else {
                    room.doChange(machine, target);
                }
                done++;
            }
            return done;
        }
    }
}
