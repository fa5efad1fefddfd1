import java.util.ArrayList;
import java.util.Arrays;
import java.util.List;

/**
 * The writes of each call, one by one: a call is made on like volumes that are armed with 0, 1, 2
 * and so on writes, and what one disk has more than the one before is the write.
 */
public final class WritesTest {
    private static final String NOTHING = "nothing";
    private static final int MANY = 64;

    private interface Step {
        void run(ClusterVolume v);
    }

    private static final Checks checks = new Checks();

    public static void main(String[] args) {
        make();
        remove();
        rename();
        append();
        put();
        shorten();
        mountAfterAnyWrite();
        checks.end();
    }

    private static void make() {
        writes("make in the root's empty entry", v -> { }, v -> v.make(1, false),
                "cluster 0: 1 1 -1 0");
        writes("make behind the root's entries", v -> v.make(1, false), v -> v.make(2, true),
                "cluster 1: 2 2 -1 0", "table 1: -1", "table 0: 1");
        writes("make in a directory without clusters", v -> v.make(2, true),
                v -> v.make(0x23, false),
                "cluster 1: 3 1 -1 0", "table 1: -1", "cluster 0: 2 2 1 0");
        writes("make behind two entries of a directory", WritesTest::tree,
                v -> v.make(0x25, false),
                "cluster 4: 5 1 -1 0", "table 4: -1", "table 3: 4");
        writes("make in the first of two empty entries", v -> {
            tree(v);
            v.remove(0x24);
            v.remove(0x23);
        }, v -> v.make(0x25, true), "cluster 2: 5 2 -1 0");
    }

    private static void remove() {
        writes("remove a file of length 0", WritesTest::tree, v -> v.remove(1),
                "cluster 0: 0 0 0 0");
        writes("remove a file of three clusters", v -> {
            tree(v);
            numbers(v, 1, 9);
        }, v -> v.remove(1),
                "cluster 0: 0 0 0 0", "table 4: -2", "table 5: -2", "table 6: -2");
        writes("remove a directory without clusters", WritesTest::tree, v -> v.remove(0x24),
                "cluster 3: 0 0 0 0");
        writes("remove a directory of empty entries", v -> {
            tree(v);
            v.remove(0x23);
            v.remove(0x24);
        }, v -> v.remove(2), "cluster 1: 0 0 0 0", "table 2: -2", "table 3: -2");
        writes("remove in the order of the chain", v -> {
            tree(v);
            numbers(v, 0x23, 1);
            numbers(v, 1, 1);
            v.remove(0x23);
            numbers(v, 1, 5);
        }, v -> v.remove(1), "cluster 0: 0 0 0 0", "table 5: -2", "table 4: -2");
    }

    private static void rename() {
        writes("rename", WritesTest::tree, v -> v.rename(0x24, 9), "cluster 3: 9 2 -1 0");
    }

    private static void append() {
        writes("append to a file of length 0", WritesTest::tree, v -> v.append(1, 7),
                "cluster 4: 7 0 0 0", "table 4: -1", "cluster 0: 1 1 4 1");
        writes("append where there is room", v -> {
            tree(v);
            numbers(v, 1, 6);
        }, v -> v.append(1, 9), "cluster 5: 4 5 9 0", "cluster 0: 1 1 4 7");
        writes("append a number that is in the cell already", v -> {
            tree(v);
            numbers(v, 1, 2);
            v.shorten(1, 1);
        }, v -> v.append(1, 1), NOTHING, "cluster 0: 1 1 4 2");
        writes("append a cluster more", v -> {
            tree(v);
            numbers(v, 1, 8);
        }, v -> v.append(1, 9),
                "cluster 6: 9 0 0 0", "table 6: -1", "table 5: 6", "cluster 0: 1 1 4 9");
        writes("append in the least free cluster, which has old cells", v -> {
            tree(v);
            numbers(v, 0x23, 4);
            numbers(v, 1, 4);
            v.remove(0x23);
        }, v -> v.append(1, 9),
                "cluster 4: 9 0 0 0", "table 4: -1", "table 5: 4", "cluster 0: 1 1 5 5");
    }

    private static void put() {
        Step six = v -> {
            tree(v);
            numbers(v, 1, 6);
        };
        writes("put", six, v -> v.put(1, 5, 50), "cluster 5: 4 50 0 0");
        writes("put a number that is there", six, v -> v.put(1, 5, 5), NOTHING);
    }

    private static void shorten() {
        Step thirteen = v -> {
            tree(v);
            numbers(v, 1, 13);
        };
        writes("shorten to its own length", thirteen, v -> v.shorten(1, 13));
        writes("shorten by one cluster", thirteen, v -> v.shorten(1, 12),
                "cluster 0: 1 1 4 12", "table 6: -1", "table 7: -2");
        writes("shorten by three clusters", thirteen, v -> v.shorten(1, 1),
                "cluster 0: 1 1 4 1", "table 4: -1", "table 5: -2", "table 6: -2", "table 7: -2");
        writes("shorten within a cluster", v -> {
            tree(v);
            numbers(v, 1, 8);
        }, v -> v.shorten(1, 5), "cluster 0: 1 1 4 5");
        writes("shorten to 0", thirteen, v -> v.shorten(1, 0),
                "cluster 0: 1 1 -1 0", "table 4: -2", "table 5: -2", "table 6: -2", "table 7: -2");
    }

    private static void mountAfterAnyWrite() {
        Step nine = v -> {
            tree(v);
            numbers(v, 1, 9);
        };
        mounts("mount after a loss in make", WritesTest::tree, v -> v.make(0x241, true), 0, 0, 1);
        mounts("mount after a loss in remove", nine, v -> v.remove(1), 0, 3, 2, 1);
        mounts("mount after a loss in a first append", WritesTest::tree, v -> v.append(1, 7),
                0, 0, 1);
        mounts("mount after a loss in an append of a cluster", v -> {
            tree(v);
            numbers(v, 1, 8);
        }, v -> v.append(1, 7), 0, 0, 1, 1);
        mounts("mount after a loss in shorten", nine, v -> v.shorten(1, 2), 0, 2, 2, 1);
        mounts("mount after a loss in shorten to 0", nine, v -> v.shorten(1, 0), 0, 3, 2, 1);
    }

    /** A file 1 (entry 0), a directory 2 (entry 1) with a file 3 (entry 2), a directory 4 (3). */
    private static void tree(ClusterVolume v) {
        v.make(1, false);
        v.make(2, true);
        v.make(0x23, false);
        v.make(0x24, true);
    }

    /** Lengthens a file by the numbers of its places. */
    private static void numbers(ClusterVolume v, int path, int length) {
        for (int i = v.length(path); i < length; i++) {
            v.append(path, i);
        }
    }

    private static void writes(String what, Step before, Step call, String... due) {
        checks.same(what, Arrays.asList(due), () -> writesOf(before, call));
    }

    private static List<String> writesOf(Step before, Step call) {
        List<String> writes = new ArrayList<>();
        ClusterVolume last = armedRun(before, call, 0);
        for (int n = 1; last.isDown() && n < MANY; n++) {
            ClusterVolume next = armedRun(before, call, n);
            writes.add(difference(last, next));
            last = next;
        }
        return writes;
    }

    private static ClusterVolume armedRun(Step before, Step call, int writes) {
        ClusterVolume v = new ClusterVolume();
        before.run(v);
        v.arm(writes);
        Object answer = Checks.answerOf(() -> {
            call.run(v);
            return null;
        });
        Object due = v.isDown() ? IllegalStateException.class : null;
        checks.same("a call with " + writes + " writes", due, () -> answer);
        return v;
    }

    private static String difference(ClusterVolume before, ClusterVolume after) {
        List<String> found = new ArrayList<>();
        for (int cluster = 0; cluster < 32; cluster++) {
            String cells = Checks.clusterOf(after, cluster);
            if (!cells.equals(Checks.clusterOf(before, cluster))) {
                found.add("cluster " + cluster + ": " + cells);
            }
            if (after.table(cluster) != before.table(cluster)) {
                found.add("table " + cluster + ": " + after.table(cluster));
            }
        }
        return found.isEmpty() ? NOTHING : String.join(", ", found);
    }

    /** What mount() answers when the power was lost in the first write, the second, and so on. */
    private static void mounts(String what, Step before, Step call, Integer... due) {
        List<Integer> answers = new ArrayList<>();
        ClusterVolume v = armedRun(before, call, 0);
        for (int n = 1; v.isDown() && n < MANY; n++) {
            answers.add(v.mount());
            checks.same(what + ", once more", 0, v::mount);
            v = armedRun(before, call, n);
        }
        checks.same(what, Arrays.asList(due), () -> answers);
    }
}
