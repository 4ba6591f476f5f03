import java.util.Map;
import java.util.Random;
import java.util.TreeMap;

/**
 * Runs of 512 calls, made from fixed seeds, in RackMoves and in RoomModel: each answer and exception is the same.
 * With an argument, it prints how often each call had each answer.
 */
public final class ModelTest {
    private static final int RUNS = 600;
    private static final int CALLS = 512;
    private static final int FAULTS_TOLD = 5;

    private interface Answer {
        Object get();
    }

    private static int faults = 0;
    private static final Map<String, Map<String, Integer>> TALLY = new TreeMap<>();

    private final Random random;
    private final RackMoves room = new RackMoves();
    private final RoomModel model = new RoomModel();
    private final int seed;
    /** Of 100 arguments, so many are wrong ones. */
    private final int wrongShare;
    /** So many machines are wanted, and told of. */
    private final int machines;
    private int calls = 0;
    private boolean same = true;

    private ModelTest(int seed) {
        this.seed = seed;
        random = new Random(seed);
        wrongShare = seed % 4 == 0 ? 15 : 2;
        machines = 1 + seed % 13;
    }

    public static void main(String[] args) {
        for (int seed = 0; seed < RUNS && faults < FAULTS_TOLD; seed++) {
            new ModelTest(seed).run();
        }
        if (args.length > 0) {
            TALLY.forEach((call, answers) -> System.out.println(call + " " + answers));
        }
        Check.end();
    }

    private void run() {
        while (same && calls < CALLS - 1) {
            int kind = random.nextInt(calls < 40 ? 55 : 100);
            if (kind < 30) {
                compareSetting();
            } else if (kind < 40) {
                compareTold();
            } else if (kind < 72) {
                compareStep();
            } else if (kind < 84) {
                compareQuestion();
            } else if (kind < 94) {
                comparePlan();
            } else if (kind < 97) {
                compare("undo", "()", room::undo, model::undo);
            } else {
                compareDigest();
            }
        }
        compareDigest();
    }

    private void compareSetting() {
        switch (random.nextInt(10)) {
            case 0:
                compareSetLimit(pick(0, 5), random.nextInt(3) == 0 ? pick(0, 99) : pick(100, 500));
                break;
            case 1:
                compareSetTray(pick(0, 4), pick(0, 9));
                break;
            case 2:
                compareSetLevel(random.nextInt(4) > 0 ? pick(100, 500) : pick(0, 100));
                break;
            case 3: case 4: case 5:
                compareAddMachine(pick(1, 4), pick(1, 99), pick(0, 2), pick(0, 3));
                break;
            case 6: case 7:
                compareAddCable(pick(0, machines - 1), pick(0, machines - 1), pick(random.nextInt(15), 20));
                break;
            case 8:
                compareFreeze();
                break;
            default:
                compareRemoveOrPass();
        }
    }

    private void compareSetLimit(int rack, int limit) {
        compare("setLimit", args(rack, limit), () -> room.setLimit(rack, limit), () -> model.setLimit(rack, limit));
    }

    private void compareSetTray(int tray, int size) {
        compare("setTray", args(tray, size), () -> room.setTray(tray, size), () -> model.setTray(tray, size));
    }

    private void compareSetLevel(int level) {
        compare("setLevel", args(level), () -> room.setLevel(level), () -> model.setLevel(level));
    }

    private void compareAddMachine(int size, int load, int phase, int team) {
        if (model.value(0) < machines || random.nextInt(4) == 0) {
            compare("addMachine", args(size, load, phase, team), () -> room.addMachine(size, load, phase, team),
                () -> model.addMachine(size, load, phase, team));
        } else {
            compareStep();
        }
    }

    private void compareAddCable(int one, int other, int length) {
        compare("addCable", args(one, other, length), () -> room.addCable(one, other, length),
            () -> model.addCable(one, other, length));
    }

    private void compareFreeze() {
        int team = pick(0, 3);
        int first = random.nextInt(4) > 0 ? Math.min(999, model.value(4) + random.nextInt(4)) : pick(0, 999);
        int hours = random.nextInt(4) > 0 ? pick(1, 4) : pick(1, 99);
        compare("addFreeze", args(team, first, hours), () -> room.addFreeze(team, first, hours),
            () -> model.addFreeze(team, first, hours));
    }

    private void compareRemoveOrPass() {
        int cable = pick(0, Math.max(0, model.value(2) - 1));
        int freeze = pick(0, Math.max(0, model.value(3) - 1));
        int hours = random.nextInt(4) > 0 ? pick(1, 3) : pick(seed % 7 == 0 ? 90 : 1, 99);
        int kind = random.nextInt(5);
        if (kind == 0) {
            compare("removeCable", args(cable), () -> room.removeCable(cable), () -> model.removeCable(cable));
        } else if (kind < 3) {
            compare("removeFreeze", args(freeze), () -> room.removeFreeze(freeze), () -> model.removeFreeze(freeze));
        } else {
            compare("pass", args(hours), () -> room.pass(hours), () -> model.pass(hours));
        }
    }

    private void compareTold() {
        int machine = pickMachine();
        int a = pick(0, 5);
        int what = pick(0, 7);
        int slot = pick(0, 9);
        int cable = pick(0, 9);
        int value = pick(0, 13);
        int index = pick(0, 21);
        switch (random.nextInt(7)) {
            case 0:
                compare("machine", args(machine, what), () -> room.machine(machine, what),
                    () -> model.machine(machine, what));
                break;
            case 1:
                compare("rack", args(a, what), () -> room.rack(a, what), () -> model.rack(a, what));
                break;
            case 2:
                compare("slot", args(a, slot), () -> room.slot(a, slot), () -> model.slot(a, slot));
                break;
            case 3:
                compare("cable", args(cable, a), () -> room.cable(cable, a), () -> model.cable(cable, a));
                break;
            case 4:
                compare("tray", args(a), () -> room.tray(a), () -> model.tray(a));
                break;
            case 5:
                compare("pile", args(index, a), () -> room.pile(index, a), () -> model.pile(index, a));
                break;
            default:
                compare("value", args(value), () -> room.value(value), () -> model.value(value));
        }
    }

    private void compareStep() {
        int machine = pickMachine();
        int rack = pick(-1, 5);
        int phase = pick(0, 2);
        int kind = random.nextInt(10);
        if (kind < 7) {
            compare("move", args(machine, rack), () -> room.move(machine, rack), () -> model.move(machine, rack));
        } else if (kind < 9) {
            compare("change", args(machine, phase), () -> room.change(machine, phase),
                () -> model.change(machine, phase));
        } else {
            compare("backOut", "()", room::backOut, model::backOut);
        }
    }

    private void compareQuestion() {
        int machine = pickMachine();
        int rack = pick(-1, 5);
        switch (random.nextInt(5)) {
            case 0:
                compare("mayMove", args(machine, rack), () -> room.mayMove(machine, rack),
                    () -> model.mayMove(machine, rack));
                break;
            case 1:
                compare("bestRack", args(machine), () -> room.bestRack(machine), () -> model.bestRack(machine));
                break;
            case 2:
                compare("bestChange", "()", room::bestChange, model::bestChange);
                break;
            case 3:
                compare("backable", "()", room::backable, model::backable);
                break;
            default:
                compare("taken", "()", room::taken, model::taken);
        }
    }

    /** Mostly a text that is appended, done and cleared; now and then one that grows. */
    private void comparePlan() {
        String text = randomText();
        for (int i = 0; i < text.length(); i++) {
            int value = text.charAt(i);
            compare("append", args(value), () -> room.append(value), () -> model.append(value));
        }
        compare("plan", "() behind " + text, room::plan, model::plan);
        if (random.nextInt(4) > 0) {
            compare("clearText", "()", room::clearText, model::clearText);
        }
        if (random.nextInt(50) == 0) {
            int value = pick(0, 127);
            compare("append", args(value), () -> room.append(value), () -> model.append(value));
        }
    }

    private String randomText() {
        StringBuilder text = new StringBuilder();
        int parts = 1 + random.nextInt(random.nextInt(10) == 0 ? 20 : 3);
        for (int i = 0; i < parts; i++) {
            int there = Math.max(1, model.value(0));
            int machine = random.nextInt(20) == 0 ? random.nextInt(100) : random.nextInt(there);
            String number = (machine < 10 && random.nextInt(4) == 0 ? "0" : "") + machine;
            int kind = random.nextInt(6);
            if (kind == 0) {
                text.append("h;");
            } else if (kind == 1) {
                text.append('p').append(number).append('>').append(random.nextInt(3)).append(';');
            } else {
                text.append('m').append(number).append('>').append("012345s".charAt(random.nextInt(7))).append(';');
            }
        }
        if (random.nextInt(5) == 0) {
            String signs = "mph>s;0123456789 x\0\177";
            text.setCharAt(random.nextInt(text.length()), signs.charAt(random.nextInt(signs.length())));
        }
        if (random.nextInt(10) == 0) {
            text.setLength(random.nextInt(text.length() + 1));
        }
        return text.toString();
    }

    private void compareDigest() {
        compare("digest", "()", room::digest, model::digest);
    }

    private int pickMachine() {
        return pick(0, Math.max(0, model.value(0) - 1));
    }

    /** A number from least to greatest; now and then one that is out of this range. */
    private int pick(int least, int greatest) {
        if (random.nextInt(100) < wrongShare) {
            int[] wrong = {least - 1, greatest + 1, least - 2, greatest + 2, Integer.MIN_VALUE, Integer.MAX_VALUE,
                -1 - random.nextInt(1000), random.nextInt(10000)};
            return wrong[random.nextInt(wrong.length)];
        }
        return least + random.nextInt(greatest - least + 1);
    }

    private static String args(int... numbers) {
        return java.util.Arrays.toString(numbers);
    }

    private void compare(String call, String args, Answer got, Answer due) {
        if (!same || calls >= CALLS) {
            return;
        }
        calls++;
        String gotText = textOf(got);
        String dueText = textOf(due);
        same = gotText.equals(dueText);
        Check.is("run " + seed + ", call " + calls + ", " + call + args + " as due", same ? 1 : 0, 1);
        if (!same) {
            faults++;
            Check.tell("it answered " + gotText + ", due is " + dueText);
        }
        TALLY.computeIfAbsent(call, each -> new TreeMap<>()).merge(dueText, 1, Integer::sum);
    }

    private static String textOf(Answer answer) {
        try {
            return String.valueOf(answer.get());
        } catch (RuntimeException e) {
            return e.getClass().getSimpleName();
        }
    }
}
