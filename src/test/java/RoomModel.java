import java.util.ArrayDeque;
import java.util.ArrayList;
import java.util.Deque;
import java.util.List;
import java.util.regex.Matcher;
import java.util.regex.Pattern;

/**
 * The document once more, written another way: a grid of slots, objects that are copied whole, and a pattern for the
 * plan text. ModelTest compares RackMoves with it.
 */
final class RoomModel {
    private static final Pattern PLAN = Pattern.compile("(m\\d{1,2}>[0-5s];|p\\d{1,2}>[0-2];|h;)*");
    private static final Pattern NUMBER = Pattern.compile("[mp](\\d{1,2})(?!\\d)");

    private static final class State {
        final List<int[]> machines = new ArrayList<>();
        final List<int[]> cables = new ArrayList<>();
        final List<int[]> freezes = new ArrayList<>();
        final List<int[]> pile = new ArrayList<>();
        final int[][] grid = new int[6][10];
        final int[] limits = {200, 200, 200, 200, 200, 200};
        final int[] trays = {4, 4, 4, 4, 4};
        int level = 100;
        int hour = 0;
        int done = 0;
        int backedOut = 0;

        State copy() {
            State copy = new State();
            machines.forEach(each -> copy.machines.add(each.clone()));
            cables.forEach(each -> copy.cables.add(each.clone()));
            freezes.forEach(each -> copy.freezes.add(each.clone()));
            pile.forEach(each -> copy.pile.add(each.clone()));
            for (int rack = 0; rack < 6; rack++) {
                copy.limits[rack] = limits[rack];
                copy.grid[rack] = grid[rack].clone();
            }
            System.arraycopy(trays, 0, copy.trays, 0, 5);
            copy.level = level;
            copy.hour = hour;
            copy.done = done;
            copy.backedOut = backedOut;
            return copy;
        }

        /** The rack and the lowest slot of a machine, found in the grid; machine m stands there as m + 1. */
        int[] placeOf(int machine) {
            for (int rack = 0; rack < 6; rack++) {
                for (int slot = 0; slot < 10; slot++) {
                    if (grid[rack][slot] == machine + 1) {
                        return new int[] {rack, slot};
                    }
                }
            }
            return new int[] {-1, -1};
        }

        boolean fits(int rack, int slot, int size) {
            for (int each = slot; each < slot + size; each++) {
                if (each >= 10 || grid[rack][each] != 0) {
                    return false;
                }
            }
            return true;
        }

        void clear(int machine) {
            for (int[] rack : grid) {
                for (int slot = 0; slot < 10; slot++) {
                    if (rack[slot] == machine + 1) {
                        rack[slot] = 0;
                    }
                }
            }
        }

        void fill(int machine, int rack, int slot) {
            for (int each = slot; each < slot + machines.get(machine)[0]; each++) {
                grid[rack][each] = machine + 1;
            }
        }

        int[] phaseLoads() {
            int[] loads = new int[3];
            for (int machine = 0; machine < machines.size(); machine++) {
                if (placeOf(machine)[0] >= 0) {
                    loads[machines.get(machine)[2]] += machines.get(machine)[1];
                }
            }
            return loads;
        }

        int difference() {
            int[] loads = phaseLoads();
            java.util.Arrays.sort(loads);
            return loads[2] - loads[0];
        }

        int rackLoad(int rack, int phases) {
            int load = 0;
            for (int machine = 0; machine < machines.size(); machine++) {
                if (placeOf(machine)[0] == rack && (phases >> machines.get(machine)[2] & 1) == 1) {
                    load += machines.get(machine)[1];
                }
            }
            return load;
        }

        int traysOf(int cable) {
            int one = placeOf(cables.get(cable)[0])[0];
            int other = placeOf(cables.get(cable)[1])[0];
            int trays = 0;
            for (int tray = 0; one >= 0 && other >= 0 && tray < 5; tray++) {
                if ((one <= tray) != (other <= tray)) {
                    trays |= 1 << tray;
                }
            }
            return trays;
        }

        int need(int cable) {
            boolean coiled = placeOf(cables.get(cable)[0])[0] < 0 || placeOf(cables.get(cable)[1])[0] < 0;
            return coiled ? 0 : 2 + 3 * Integer.bitCount(traysOf(cable));
        }

        int inTray(int tray) {
            int count = 0;
            for (int cable = 0; cable < cables.size(); cable++) {
                count += traysOf(cable) >> tray & 1;
            }
            return count;
        }

        int wrong() {
            int wrong = difference() > level ? 7 : 0;
            for (int cable = 0; cable < cables.size(); cable++) {
                wrong = need(cable) > cables.get(cable)[2] ? 6 : wrong;
            }
            for (int tray = 0; tray < 5; tray++) {
                wrong = inTray(tray) > trays[tray] ? 5 : wrong;
            }
            for (int rack = 0; rack < 6; rack++) {
                wrong = rackLoad(rack, 7) > limits[rack] ? 4 : wrong;
            }
            return wrong;
        }

        boolean frozen(int machine) {
            return freezes.stream().anyMatch(each -> each[0] == machines.get(machine)[3]
                && hour - each[1] >= 0 && hour - each[1] < each[2]);
        }

        /** Does the step in this very state, which is thrown away if the answer is not 0. */
        int step(char kind, int machine, int target) {
            if (frozen(machine)) {
                return 1;
            }
            int[] before = placeOf(machine);
            int[] step = {machine, before[0], before[1], machines.get(machine)[2]};
            if (target == (kind == 'm' ? before[0] : step[3])) {
                return 2;
            }
            if (kind == 'p') {
                machines.get(machine)[2] = target;
            } else {
                clear(machine);
                int slot = 0;
                while (target >= 0 && slot < 10 && !fits(target, slot, machines.get(machine)[0])) {
                    slot++;
                }
                if (slot == 10) {
                    return 3;
                }
                if (target >= 0) {
                    fill(machine, target, slot);
                }
            }
            pile.add(0, step);
            if (pile.size() > 20) {
                pile.remove(20);
            }
            done++;
            return wrong();
        }

        int stepBack() {
            if (pile.isEmpty()) {
                return 2;
            }
            int[] step = pile.remove(0);
            if (frozen(step[0])) {
                return 1;
            }
            clear(step[0]);
            if (step[1] >= 0) {
                if (!fits(step[1], step[2], machines.get(step[0])[0])) {
                    return 3;
                }
                fill(step[0], step[1], step[2]);
            }
            machines.get(step[0])[2] = step[3];
            backedOut++;
            return wrong();
        }
    }

    private State state = new State();
    private final Deque<State> saved = new ArrayDeque<>();
    private String text = "";

    private static void index(boolean good) {
        if (!good) {
            throw new IndexOutOfBoundsException();
        }
    }

    private static void argument(boolean good) {
        if (!good) {
            throw new IllegalArgumentException();
        }
    }

    private static void state(boolean good) {
        if (!good) {
            throw new IllegalStateException();
        }
    }

    private static boolean in(int value, int least, int greatest) {
        return value >= least && value <= greatest;
    }

    private void index(int value, int count) {
        index(in(value, 0, count - 1));
    }

    /** Saves the present state, and goes on in another one. */
    private void become(State next) {
        saved.addLast(state);
        if (saved.size() > 4) {
            saved.removeFirst();
        }
        state = next;
    }

    private State next() {
        become(state.copy());
        return state;
    }

    int setLimit(int rack, int limit) {
        index(rack, 6);
        argument(in(limit, 0, 500));
        int previous = state.limits[rack];
        next().limits[rack] = limit;
        return previous;
    }

    int setTray(int tray, int size) {
        index(tray, 5);
        argument(in(size, 0, 9));
        int previous = state.trays[tray];
        next().trays[tray] = size;
        return previous;
    }

    int setLevel(int level) {
        argument(in(level, 0, 500));
        int previous = state.level;
        next().level = level;
        return previous;
    }

    int addMachine(int size, int load, int phase, int team) {
        argument(in(size, 1, 4) && in(load, 1, 99) && in(phase, 0, 2) && in(team, 0, 3));
        state(state.machines.size() < 12);
        next().machines.add(new int[] {size, load, phase, team});
        return state.machines.size() - 1;
    }

    int addCable(int one, int other, int length) {
        index(one, state.machines.size());
        index(other, state.machines.size());
        argument(one != other && in(length, 1, 20));
        state(state.cables.size() < 10);
        next().cables.add(new int[] {one, other, length});
        return state.cables.size() - 1;
    }

    int removeCable(int cable) {
        index(cable, state.cables.size());
        next().cables.remove(cable);
        return state.cables.size();
    }

    int addFreeze(int team, int first, int hours) {
        argument(in(team, 0, 3) && in(first, 0, 999) && in(hours, 1, 99));
        state(state.freezes.size() < 6);
        next().freezes.add(new int[] {team, first, hours});
        return state.freezes.size() - 1;
    }

    int removeFreeze(int freeze) {
        index(freeze, state.freezes.size());
        next().freezes.remove(freeze);
        return state.freezes.size();
    }

    int pass(int hours) {
        argument(in(hours, 1, 99));
        state(state.hour + hours <= 2000);
        next().hour += hours;
        return state.hour;
    }

    int machine(int machine, int what) {
        index(machine, state.machines.size());
        argument(in(what, 0, 7));
        if (what < 4) {
            return state.machines.get(machine)[what];
        }
        if (what < 6) {
            return state.placeOf(machine)[what - 4];
        }
        if (what == 6) {
            return state.frozen(machine) ? 1 : 0;
        }
        return (int) state.cables.stream().filter(each -> each[0] == machine || each[1] == machine).count();
    }

    int rack(int rack, int what) {
        index(rack, 6);
        argument(in(what, 0, 7));
        long free = java.util.Arrays.stream(state.grid[rack]).filter(each -> each == 0).count();
        long inside = java.util.Arrays.stream(state.grid[rack]).filter(each -> each != 0).distinct().count();
        int run = 0;
        int greatest = 0;
        for (int slot = 0; slot < 10; slot++) {
            run = state.grid[rack][slot] == 0 ? run + 1 : 0;
            greatest = Math.max(greatest, Math.min(4, run));
        }
        int[] answers = {state.limits[rack], state.rackLoad(rack, 7), state.rackLoad(rack, 1), state.rackLoad(rack, 2),
            state.rackLoad(rack, 4), (int) inside, (int) free, greatest};
        return answers[what];
    }

    int slot(int rack, int slot) {
        index(rack, 6);
        index(slot, 10);
        return state.grid[rack][slot] - 1;
    }

    int cable(int cable, int what) {
        index(cable, state.cables.size());
        argument(in(what, 0, 3));
        return what == 3 ? state.need(cable) : state.cables.get(cable)[what];
    }

    int tray(int tray) {
        index(tray, 5);
        return state.inTray(tray);
    }

    int value(int what) {
        argument(in(what, 0, 13));
        int standing = 0;
        for (int machine = 0; machine < state.machines.size(); machine++) {
            standing += state.placeOf(machine)[0] >= 0 ? 1 : 0;
        }
        int[] loads = state.phaseLoads();
        int[] answers = {state.machines.size(), standing, state.cables.size(), state.freezes.size(), state.hour,
            state.level, loads[0], loads[1], loads[2], state.difference(), state.wrong(), state.pile.size(),
            state.done, state.backedOut};
        return answers[what];
    }

    int move(int machine, int rack) {
        index(machine, state.machines.size());
        argument(in(rack, -1, 5));
        return doStep('m', machine, rack);
    }

    int change(int machine, int phase) {
        index(machine, state.machines.size());
        argument(in(phase, 0, 2));
        return doStep('p', machine, phase);
    }

    private int doStep(char kind, int machine, int target) {
        State trial = state.copy();
        int why = trial.step(kind, machine, target);
        if (why == 0) {
            become(trial);
        }
        return why;
    }

    int backOut() {
        State trial = state.copy();
        int why = trial.stepBack();
        if (why == 0) {
            become(trial);
        }
        return why;
    }

    int pile(int index, int what) {
        index(index >= 0);
        argument(in(what, 0, 3));
        return index < state.pile.size() ? state.pile.get(index)[what] : -1;
    }

    int mayMove(int machine, int rack) {
        index(machine, state.machines.size());
        argument(in(rack, -1, 5));
        return state.copy().step('m', machine, rack);
    }

    int bestRack(int machine) {
        index(machine, state.machines.size());
        int best = -1;
        int least = Integer.MAX_VALUE;
        for (int rack = 0; rack < 6; rack++) {
            State trial = state.copy();
            if (trial.step('m', machine, rack) == 0) {
                int fullest = 0;
                for (int each = 0; each < 6; each++) {
                    fullest = Math.max(fullest, trial.rackLoad(each, 7));
                }
                if (fullest < least) {
                    least = fullest;
                    best = rack;
                }
            }
        }
        return best;
    }

    int bestChange() {
        int best = -1;
        int least = state.difference();
        for (int number = 0; number < 3 * state.machines.size(); number++) {
            State trial = state.copy();
            if (trial.step('p', number / 3, number % 3) == 0 && trial.difference() < least) {
                least = trial.difference();
                best = number;
            }
        }
        return best;
    }

    int backable() {
        State trial = state.copy();
        int count = 0;
        while (trial.stepBack() == 0) {
            count++;
        }
        return count;
    }

    double taken() {
        int slots = 0;
        for (int[] rack : state.grid) {
            for (int slot : rack) {
                slots += slot != 0 ? 1 : 0;
            }
        }
        return slots / 60.0;
    }

    int append(int value) {
        argument(in(value, 0, 127));
        state(text.length() < 90);
        text += (char) value;
        return text.length();
    }

    int clearText() {
        int length = text.length();
        text = "";
        return length;
    }

    /** -1 if the text is a plan. */
    private int syntaxError() {
        int error = -1;
        if (!PLAN.matcher(text).matches()) {
            error = 0;
            while (error < text.length() && canStart(text.substring(0, error + 1))) {
                error++;
            }
        }
        Matcher numbers = NUMBER.matcher(text);
        while (numbers.find() && (error < 0 || numbers.end() <= error)) {
            if (Integer.parseInt(numbers.group(1)) >= state.machines.size()) {
                return numbers.start(1);
            }
        }
        return error;
    }

    private static boolean canStart(String start) {
        Matcher matcher = PLAN.matcher(start);
        return matcher.matches() || matcher.hitEnd();
    }

    int plan() {
        int error = syntaxError();
        if (error >= 0) {
            return -10 - error;
        }
        State trial = state.copy();
        int number = 0;
        for (String part : text.isEmpty() ? new String[0] : text.split(";")) {
            if (part.equals("h")) {
                trial.hour++;
                if (trial.hour > 2000) {
                    return -9999;
                }
            } else {
                int sign = part.indexOf('>');
                int machine = Integer.parseInt(part.substring(1, sign));
                int target = part.endsWith("s") ? -1 : Integer.parseInt(part.substring(sign + 1));
                int why = trial.step(part.charAt(0), machine, target);
                if (why != 0) {
                    return -1000 - 10 * number - why;
                }
                number++;
            }
        }
        become(trial);
        return number;
    }

    int undo() {
        state(!saved.isEmpty());
        state = saved.removeLast();
        return saved.size();
    }

    long digest() {
        long h = 31 * 3511L + text.length();
        for (int what = 0; what < 14; what++) {
            h = 31 * h + value(what);
        }
        for (int rack = 0; rack < 6; rack++) {
            for (int what = 0; what < 8; what++) {
                h = 31 * h + rack(rack, what);
            }
            for (int slot = 0; slot < 10; slot++) {
                h = 31 * h + slot(rack, slot);
            }
        }
        for (int tray = 0; tray < 5; tray++) {
            h = 31 * h + tray(tray);
        }
        for (int machine = 0; machine < state.machines.size(); machine++) {
            for (int what = 0; what < 8; what++) {
                h = 31 * h + machine(machine, what);
            }
        }
        for (int cable = 0; cable < state.cables.size(); cable++) {
            for (int what = 0; what < 4; what++) {
                h = 31 * h + cable(cable, what);
            }
        }
        for (int[] step : state.pile) {
            for (int each : step) {
                h = 31 * h + each;
            }
        }
        return 31 * h + saved.size();
    }
}
