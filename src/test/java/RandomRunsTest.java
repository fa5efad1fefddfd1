import java.util.Random;
import java.util.TreeMap;

/** Runs of mixed calls, the same ones each time, on ClusterVolume and on ModelVolume. */
public final class RandomRunsTest {
    private static final int RUNS = 4000;
    /** An object is good for so many calls; to look at its whole disk takes 161 of them. */
    private static final int CALLS = 512;
    private static final int CALLS_TO_LOOK = 161;
    private static final int KINDS_OF_CALL = 15;
    /** For each method an answer (for mount() 0 and more than 0) and each exception of the face. */
    private static final int OUTCOMES_DUE = 57;
    /** Each of them has to come often, or the runs would say little of it. */
    private static final int LEAST_OFTEN = 300;

    private static final Checks checks = new Checks("random runs");
    private static final TreeMap<String, Integer> outcomes = new TreeMap<>();

    private final ClusterVolume volume = new ClusterVolume();
    private final ModelVolume model = new ModelVolume();
    private final Random random;
    /** How many names and how much power a run uses: few names meet often, many fill the disk. */
    private final int nameCount;
    private final boolean growing;
    private final boolean failing;

    private RandomRunsTest(int seed) {
        random = new Random(seed);
        nameCount = 1 + random.nextInt(seed % 3 == 0 ? 15 : 4);
        growing = seed % 2 == 0;
        failing = seed % 4 != 0;
    }

    public static void main(String[] args) {
        for (int seed = 0; seed < RUNS; seed++) {
            new RandomRunsTest(seed).run(seed);
        }
        checks.same("how many outcomes were met: " + outcomes, OUTCOMES_DUE, outcomes::size);
        outcomes.forEach((outcome, times) ->
                checks.same(outcome + " came often", true, () -> times >= LEAST_OFTEN));
        checks.end();
    }

    /** Half of the runs are of any length, so that the disk is seen after all kinds of calls. */
    private void run(int seed) {
        int most = CALLS - CALLS_TO_LOOK;
        int calls = growing ? most : 1 + random.nextInt(most);
        String last = "";
        for (int call = 0; call < calls; call++) {
            last = step();
        }
        checks.same("run " + seed + ": the disk after " + calls + " calls, the last " + last, true,
                this::sameDisk);
    }

    private String step() {
        int path = somePath();
        int number = random.nextInt(5) - 2;
        int i = random.nextInt(random.nextInt(4) == 0 ? 14 : 6) - 1;
        switch (kindOfCall()) {
            case 0:
                boolean directory = random.nextBoolean();
                return compare("make(" + path + ", " + directory + ")",
                        () -> volume.make(path, directory), () -> model.make(path, directory));
            case 1:
                return compare("remove(" + path + ")",
                        () -> volume.remove(path), () -> model.remove(path));
            case 2:
                int name = random.nextInt(16 + 2) - 1;
                return compare("rename(" + path + ", " + name + ")",
                        () -> volume.rename(path, name), () -> model.rename(path, name));
            case 3:
                return compare("append(" + path + ", " + number + ")",
                        () -> volume.append(path, number), () -> model.append(path, number));
            case 4:
                return compare("get(" + path + ", " + i + ")",
                        () -> volume.get(path, i), () -> model.get(path, i));
            case 5:
                return compare("put(" + path + ", " + i + ", " + number + ")",
                        () -> volume.put(path, i, number), () -> model.put(path, i, number));
            case 6:
                return compare("shorten(" + path + ", " + i + ")",
                        () -> volume.shorten(path, i), () -> model.shorten(path, i));
            case 7:
                return compare("length(" + path + ")",
                        () -> volume.length(path), () -> model.length(path));
            case 8:
                return compare("names(" + path + ")",
                        () -> volume.names(path), () -> model.names(path));
            case 9:
                return compare("free()", volume::free, model::free);
            default:
                return stepOfPower(i);
        }
    }

    private String stepOfPower(int i) {
        if (model.isDown() && random.nextInt(3) != 0) {
            return compare("mount()", volume::mount, model::mount);
        }
        int cluster = random.nextInt(36) - 2;
        switch (random.nextInt(5)) {
            case 0:
                int writes = failing ? i : -1;
                return compare("arm(" + writes + ")", () -> {
                    volume.arm(writes);
                    return "done";
                }, () -> {
                    model.arm(writes);
                    return "done";
                });
            case 1:
                return compare("isDown()", volume::isDown, model::isDown);
            case 2:
                return compare("mount()", volume::mount, model::mount);
            case 3:
                return compare("cell(" + cluster + ", " + i + ")",
                        () -> volume.cell(cluster, i), () -> model.cell(cluster, i));
            default:
                return compare("table(" + cluster + ")",
                        () -> volume.table(cluster), () -> model.table(cluster));
        }
    }

    /** Appends and makes come more often, or the disk would never be full. */
    private int kindOfCall() {
        int kind = random.nextInt(KINDS_OF_CALL);
        if (growing && random.nextInt(4) != 0) {
            return random.nextInt(4) == 0 ? 0 : 3;
        }
        return kind;
    }

    private int somePath() {
        if (random.nextInt(40) == 0) {
            return random.nextInt();
        }
        if (random.nextInt(20) == 0) {
            return random.nextInt(0x400);
        }
        int path = 0;
        int digits = random.nextInt(30) == 0 ? 0 : 1 + random.nextInt(4);
        for (int at = 0; at < digits; at++) {
            if (!isDirectory(path) && random.nextInt(8) != 0 && path != 0) {
                return path;
            }
            path = path * 16 + someName(path);
        }
        return path;
    }

    private boolean isDirectory(int path) {
        return Checks.answerOf(() -> model.names(path)) instanceof Integer;
    }

    /** Mostly one that is there, if there is any. */
    private int someName(int path) {
        Object names = Checks.answerOf(() -> model.names(path));
        if (random.nextInt(4) != 0 && names instanceof Integer there && there != 0) {
            int name = random.nextInt(15);
            while ((there >> (name + 1) & 1) == 0) {
                name = (name + 1) % 15;
            }
            return name + 1;
        }
        return 1 + random.nextInt(nameCount);
    }

    private String compare(String what, Checks.Call call, Checks.Call due) {
        Object answer = Checks.answerOf(due);
        checks.same(what, answer, call);
        String method = what.substring(0, what.indexOf('('));
        outcomes.merge(method + ": " + outcomeOf(method, answer), 1, Integer::sum);
        return what;
    }

    private static String outcomeOf(String method, Object answer) {
        if (answer instanceof Class<?> thrown) {
            return thrown.getSimpleName();
        }
        return method.equals("mount") && !answer.equals(0) ? "more than 0" : "an answer";
    }

    private boolean sameDisk() {
        for (int cluster = 0; cluster < 32; cluster++) {
            if (volume.table(cluster) != model.table(cluster)) {
                return false;
            }
            for (int i = 0; i < 4; i++) {
                if (volume.cell(cluster, i) != model.cell(cluster, i)) {
                    return false;
                }
            }
        }
        return volume.isDown() == model.isDown();
    }
}
