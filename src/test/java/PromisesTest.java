import java.util.NoSuchElementException;

/** Each promise by itself: ordinary inputs, the edges that the document names, wrong inputs. */
public final class PromisesTest {
    private static final Class<IllegalStateException> DOWN = IllegalStateException.class;
    private static final Class<IllegalArgumentException> NO_PATH = IllegalArgumentException.class;
    private static final Class<NoSuchElementException> NOWHERE = NoSuchElementException.class;
    private static final Class<UnsupportedOperationException> NOT_SO =
            UnsupportedOperationException.class;
    private static final Class<IndexOutOfBoundsException> NO_PLACE =
            IndexOutOfBoundsException.class;
    private static final Class<ArithmeticException> FULL = ArithmeticException.class;

    /** A 0 below another digit, below 0, more than four digits. */
    private static final int[] NO_PATHS = {
        0x10, 0x100, 0x1000, 0x101, 0x110, 0x1011, 0x1101, 0x1110, 0x1001, 0x10000, 0x11111,
        -1, -0x11, Integer.MIN_VALUE, Integer.MAX_VALUE,
    };

    private static final Checks checks = new Checks();

    public static void main(String[] args) {
        newObject();
        make();
        makeThrows();
        makeWhenFull();
        remove();
        removeThrows();
        rename();
        append();
        appendThrows();
        get();
        put();
        shorten();
        length();
        names();
        free();
        arm();
        isDown();
        mount();
        cell();
        table();
        noPaths();
        downComesFirst();
        throwingChangesNothing();
        checks.end();
    }

    /** A file 1 (entry 0), a directory 2 (entry 1) with a file 3 (entry 2) and a directory 4. */
    private static ClusterVolume small() {
        ClusterVolume v = new ClusterVolume();
        v.make(1, false);
        v.make(2, true);
        v.make(0x23, false);
        v.make(0x24, true);
        return v;
    }

    private static void appendUpTo(ClusterVolume v, int path, int length) {
        for (int i = v.length(path); i < length; i++) {
            v.append(path, 100 + i);
        }
    }

    private static void newObject() {
        ClusterVolume v = new ClusterVolume();
        checks.same("1: isDown", false, v::isDown);
        checks.same("1: names(0)", 0, () -> v.names(0));
        checks.same("1: length(0)", -1, () -> v.length(0));
        checks.same("1: free", 31, v::free);
        StringBuilder due = new StringBuilder("0 0 0 0 then -1\n");
        for (int cluster = 1; cluster < 32; cluster++) {
            due.append("0 0 0 0 then -2\n");
        }
        checks.same("1: the disk", due.toString(), () -> Checks.diskOf(v));
        checks.same("1: mount", 0, v::mount);
        ClusterVolume other = new ClusterVolume();
        v.make(1, false);
        checks.same("1: another object is its own", 0, () -> other.names(0));
    }

    private static void make() {
        ClusterVolume v = new ClusterVolume();
        checks.same("2: the root's empty entry", 0, () -> v.make(15, true));
        checks.same("2: its cells", "15 2 -1 0", () -> Checks.clusterOf(v, 0));
        checks.same("2: the next one takes a cluster", 1, () -> v.make(3, false));
        checks.same("2: its cells", "3 1 -1 0", () -> Checks.clusterOf(v, 1));
        checks.same("2: the root goes on there", 1, () -> v.table(0));
        checks.same("2: and ends there", -1, () -> v.table(1));
        checks.same("2: first entry of a directory", 2, () -> v.make(0xF1, true));
        checks.same("2: the directory's entry", "15 2 2 0", () -> Checks.clusterOf(v, 0));
        checks.same("2: second entry of a directory", 3, () -> v.make(0xF2, false));
        checks.same("2: the chain", 3, () -> v.table(2));
        checks.same("2: three digits", 4, () -> v.make(0xF1F, true));
        checks.same("2: four digits", 5, () -> v.make(0xF1FF, true));
        v.remove(0xF2);
        checks.same("2: a third entry", 3, () -> v.make(0xF3, true));
        v.make(0xF4, false);
        v.remove(0xF4);
        v.remove(0xF3);
        checks.same("2: the first empty entry of two", 3, () -> v.make(0xF5, true));
        checks.same("2: then the second one", 6, () -> v.make(0xF6, true));
        v.append(3, 9);
        v.make(0xF7, false);
        v.remove(3);
        checks.same("2: the empty entry of the root", 1, () -> v.make(4, false));
        checks.same("2: the least free cluster", 7, () -> v.make(5, false));
        checks.same("2: names", 1 << 15 | 1 << 4 | 1 << 5, () -> v.names(0));
    }

    private static void makeThrows() {
        ClusterVolume v = small();
        checks.throwing("2: path 0", NOT_SO, () -> v.make(0, true));
        checks.throwing("2: path 0, a file", NOT_SO, () -> v.make(0, false));
        checks.throwing("2: there as a file", NOT_SO, () -> v.make(1, false));
        checks.throwing("2: there as another kind", NOT_SO, () -> v.make(0x23, true));
        checks.throwing("2: directory not there", NOWHERE, () -> v.make(0x51, false));
        checks.throwing("2: directory is a file", NOWHERE, () -> v.make(0x11, false));
        checks.throwing("2: a file further up", NOWHERE, () -> v.make(0x2311, true));
        checks.throwing("2: nothing further up", NOWHERE, () -> v.make(0x2511, true));
        checks.throwing("2: deeper than there is", NOWHERE, () -> v.make(0x2411, true));
    }

    private static void makeWhenFull() {
        ClusterVolume v = small();
        appendUpTo(v, 1, 28 * 4);
        checks.same("2: all are taken", 0, v::free);
        checks.throwing("2: full, in the root", FULL, () -> v.make(5, false));
        checks.throwing("2: full, in a directory without clusters", FULL,
                () -> v.make(0x241, false));
        checks.throwing("2: full, but not looked for first", NOT_SO, () -> v.make(2, false));
        v.arm(0);
        checks.throwing("2: full, no write is tried", FULL, () -> v.make(5, false));
        checks.same("2: so the power stays", false, v::isDown);
        v.arm(-1);
        v.remove(0x23);
        checks.same("2: an empty entry needs no cluster", 2, () -> v.make(0x2F, true));
    }

    private static void remove() {
        ClusterVolume v = small();
        appendUpTo(v, 0x23, 9);
        checks.same("3: a file of three clusters", 3, () -> v.remove(0x23));
        checks.same("3: the entry is empty", "0 0 0 0", () -> Checks.clusterOf(v, 2));
        checks.same("3: but stays in the chain", 3, () -> v.table(2));
        checks.same("3: the clusters are free", -2, () -> v.table(4));
        checks.same("3: the last one, too", -2, () -> v.table(6));
        checks.same("3: their cells stay", "104 105 106 107", () -> Checks.clusterOf(v, 5));
        checks.same("3: names", 1 << 4, () -> v.names(2));
        checks.same("3: a file of length 0", 0, () -> v.remove(1));
        checks.same("3: a directory without clusters", 0, () -> v.remove(0x24));
        checks.same("3: a directory of empty entries", 2, () -> v.remove(2));
        checks.same("3: free", 30, v::free);
        checks.same("3: names of the root", 0, () -> v.names(0));
        checks.same("3: mount finds nothing", 0, v::mount);
    }

    private static void removeThrows() {
        ClusterVolume v = small();
        checks.throwing("3: the root", NOT_SO, () -> v.remove(0));
        checks.throwing("3: a directory with names", NOT_SO, () -> v.remove(2));
        checks.throwing("3: a name not there", NOWHERE, () -> v.remove(3));
        checks.throwing("3: below a file", NOWHERE, () -> v.remove(0x11));
        v.remove(0x23);
        checks.throwing("3: one name is left", NOT_SO, () -> v.remove(2));
        checks.throwing("3: removed already", NOWHERE, () -> v.remove(0x23));
        ClusterVolume empty = new ClusterVolume();
        checks.throwing("3: the root without entries", NOT_SO, () -> empty.remove(0));
    }

    private static void rename() {
        ClusterVolume v = small();
        appendUpTo(v, 0x23, 1);
        checks.same("4: a file", 0x2F, () -> v.rename(0x23, 15));
        checks.same("4: its cells", "15 1 4 1", () -> Checks.clusterOf(v, 2));
        checks.throwing("4: the old name is gone", NOWHERE, () -> v.length(0x23));
        checks.same("4: the file is the same", 100, () -> v.get(0x2F, 0));
        checks.same("4: a directory", 1 + 2, () -> v.rename(2, 3));
        checks.same("4: what is in it stays", 1, () -> v.length(0x3F));
        checks.same("4: a name of another directory", 0x31, () -> v.rename(0x3F, 1));
        checks.throwing("4: a name that is there", NOT_SO, () -> v.rename(0x31, 4));
        checks.throwing("4: its own name", NOT_SO, () -> v.rename(0x31, 1));
        checks.throwing("4: the root", NOT_SO, () -> v.rename(0, 1));
        checks.throwing("4: name 0", NO_PATH, () -> v.rename(1, 0));
        checks.throwing("4: name 16", NO_PATH, () -> v.rename(1, 16));
        checks.throwing("4: name below 0", NO_PATH, () -> v.rename(1, -1));
        checks.throwing("4: a wrong name comes before nowhere", NO_PATH, () -> v.rename(9, 0));
        checks.throwing("4: a wrong name comes before the root", NO_PATH, () -> v.rename(0, 0));
        checks.throwing("4: nowhere comes before a name there", NOWHERE, () -> v.rename(9, 1));
        v.remove(1);
        checks.throwing("4: an empty entry is none", NOWHERE, () -> v.rename(1, 9));
        checks.same("4: a name that is free again", 1, () -> v.rename(3, 1));
        v.make(0x141, true);
        v.make(0x1411, true);
        checks.same("4: four digits", 0x1412, () -> v.rename(0x1411, 2));
    }

    private static void append() {
        ClusterVolume v = small();
        checks.same("5: the first number", 1, () -> v.append(1, -7));
        checks.same("5: its cluster", "-7 0 0 0", () -> Checks.clusterOf(v, 4));
        checks.same("5: the table", -1, () -> v.table(4));
        checks.same("5: the entry", "1 1 4 1", () -> Checks.clusterOf(v, 0));
        checks.same("5: the second", 2, () -> v.append(1, Integer.MAX_VALUE));
        v.append(1, Integer.MIN_VALUE);
        checks.same("5: the fourth", 4, () -> v.append(1, 0));
        checks.same("5: no cluster more", 27, v::free);
        v.append(0x23, 5);
        checks.same("5: the fifth", 5, () -> v.append(1, 8));
        checks.same("5: the chain", 6, () -> v.table(4));
        checks.same("5: its new end", -1, () -> v.table(6));
        checks.same("5: the first cluster stays", "1 1 4 5", () -> Checks.clusterOf(v, 0));
        v.shorten(1, 1);
        v.append(1, 6);
        checks.same("5: cells behind stay", "-7 6 -2147483648 0", () -> Checks.clusterOf(v, 4));
        v.append(1, 7);
        v.append(1, 7);
        v.append(1, 3);
        checks.same("5: a cluster used before is made new", "3 0 0 0",
                () -> Checks.clusterOf(v, 6));
    }

    private static void appendThrows() {
        ClusterVolume v = small();
        checks.throwing("5: a directory", NOT_SO, () -> v.append(2, 1));
        checks.throwing("5: the root", NOT_SO, () -> v.append(0, 1));
        checks.throwing("5: not there", NOWHERE, () -> v.append(3, 1));
        checks.throwing("5: below a file", NOWHERE, () -> v.append(0x11, 1));
        appendUpTo(v, 1, 28 * 4 - 1);
        checks.same("5: room in the last cluster, none free", 28 * 4, () -> v.append(1, 3));
        checks.throwing("5: full", FULL, () -> v.append(1, 3));
        checks.throwing("5: full, a file of length 0", FULL, () -> v.append(0x23, 3));
        checks.throwing("5: full, but a directory", NOT_SO, () -> v.append(2, 3));
        checks.same("5: the length stays", 28 * 4, () -> v.length(1));
        v.arm(0);
        checks.throwing("5: full, no write is tried", FULL, () -> v.append(1, 3));
        checks.same("5: so the power stays", false, v::isDown);
    }

    private static void get() {
        ClusterVolume v = small();
        appendUpTo(v, 1, 5);
        v.append(0x23, 200);
        appendUpTo(v, 1, 10);
        for (int i = 0; i < 10; i++) {
            int at = i;
            checks.same("6: get(1, " + i + ")", 100 + i, () -> v.get(1, at));
        }
        checks.same("6: another file", 200, () -> v.get(0x23, 0));
        placesThatAreNone("6", v, 1, 10, (path, i) -> v.get(path, i));
        v.shorten(1, 6);
        checks.throwing("6: behind the new end", NO_PLACE, () -> v.get(1, 6));
        checks.same("6: before the new end", 105, () -> v.get(1, 5));
    }

    private interface PlaceCall {
        int run(int path, int i);
    }

    private static void placesThatAreNone(String promise, ClusterVolume v, int file, int length,
            PlaceCall call) {
        int[] wrong = {-1, length, length + 1, Integer.MIN_VALUE, Integer.MAX_VALUE};
        for (int i : wrong) {
            checks.throwing(promise + ": place " + i, NO_PLACE, () -> call.run(file, i));
        }
        checks.throwing(promise + ": a directory", NOT_SO, () -> call.run(2, 0));
        checks.throwing(promise + ": a directory, no place", NOT_SO, () -> call.run(2, -1));
        checks.throwing(promise + ": the root", NOT_SO, () -> call.run(0, 0));
        checks.throwing(promise + ": not there", NOWHERE, () -> call.run(9, -1));
        checks.throwing(promise + ": below a file", NOWHERE, () -> call.run(0x11, 0));
        v.make(14, false);
        checks.throwing(promise + ": a file of length 0", NO_PLACE, () -> call.run(14, 0));
    }

    private static void put() {
        ClusterVolume v = small();
        appendUpTo(v, 1, 6);
        checks.same("7: first cell", 100, () -> v.put(1, 0, -1));
        checks.same("7: last cell", 105, () -> v.put(1, 5, 55));
        checks.same("7: what was put", 55, () -> v.put(1, 5, 56));
        checks.same("7: first cluster", "-1 101 102 103", () -> Checks.clusterOf(v, 4));
        checks.same("7: second cluster", "104 56 0 0", () -> Checks.clusterOf(v, 5));
        checks.same("7: the length stays", 6, () -> v.length(1));
        placesThatAreNone("7", v, 1, 6, (path, i) -> v.put(path, i, 3));
        v.arm(1);
        checks.same("7: that number already", 56, () -> v.put(1, 5, 56));
        checks.throwing("7: which was a write", DOWN, () -> v.put(1, 5, 56));
    }

    private static void shorten() {
        ClusterVolume v = small();
        appendUpTo(v, 1, 18);
        checks.same("8: to its own length", 0, () -> v.shorten(1, 18));
        checks.same("8: one cluster less", 1, () -> v.shorten(1, 16));
        checks.same("8: none less", 0, () -> v.shorten(1, 13));
        checks.same("8: the entry", "1 1 4 13", () -> Checks.clusterOf(v, 0));
        checks.same("8: two clusters less", 2, () -> v.shorten(1, 8));
        checks.same("8: the new end", -1, () -> v.table(5));
        checks.same("8: free ones", -2, () -> v.table(6));
        checks.same("8: free ones", -2, () -> v.table(7));
        checks.same("8: their cells stay", "108 109 110 111", () -> Checks.clusterOf(v, 6));
        checks.same("8: what is left", 107, () -> v.get(1, 7));
        checks.same("8: to 0", 2, () -> v.shorten(1, 0));
        checks.same("8: the entry of length 0", "1 1 -1 0", () -> Checks.clusterOf(v, 0));
        checks.same("8: 0 to 0", 0, () -> v.shorten(1, 0));
        checks.throwing("8: longer than 0", NO_PLACE, () -> v.shorten(1, 1));
        appendUpTo(v, 1, 3);
        checks.throwing("8: longer", NO_PLACE, () -> v.shorten(1, 4));
        checks.throwing("8: below 0", NO_PLACE, () -> v.shorten(1, -1));
        checks.throwing("8: far below 0", NO_PLACE, () -> v.shorten(1, Integer.MIN_VALUE));
        checks.throwing("8: a directory", NOT_SO, () -> v.shorten(2, 0));
        checks.throwing("8: a directory, below 0", NOT_SO, () -> v.shorten(2, -1));
        checks.throwing("8: the root", NOT_SO, () -> v.shorten(0, 0));
        checks.throwing("8: not there", NOWHERE, () -> v.shorten(9, -1));
        v.arm(0);
        checks.same("8: to its own length without a write", 0, () -> v.shorten(1, 3));
        checks.same("8: so the power stays", false, v::isDown);
    }

    private static void length() {
        ClusterVolume v = small();
        checks.same("9: a new file", 0, () -> v.length(1));
        appendUpTo(v, 1, 5);
        checks.same("9: a file", 5, () -> v.length(1));
        checks.same("9: the root", -3, () -> v.length(0));
        checks.same("9: a directory", -3, () -> v.length(2));
        checks.same("9: a directory without clusters", -1, () -> v.length(0x24));
        v.remove(0x23);
        checks.same("9: an empty entry does not count", -2, () -> v.length(2));
        checks.throwing("9: not there", NOWHERE, () -> v.length(0x23));
        checks.throwing("9: below a file", NOWHERE, () -> v.length(0x11));
        checks.throwing("9: an empty entry by no name", NO_PATH, () -> v.length(0x20));
    }

    private static void names() {
        ClusterVolume v = small();
        checks.same("10: the root", 1 << 1 | 1 << 2, () -> v.names(0));
        checks.same("10: a directory", 1 << 3 | 1 << 4, () -> v.names(2));
        checks.same("10: a directory without clusters", 0, () -> v.names(0x24));
        checks.throwing("10: a file", NOT_SO, () -> v.names(1));
        checks.throwing("10: not there", NOWHERE, () -> v.names(5));
        checks.throwing("10: below a file", NOWHERE, () -> v.names(0x111));
        v.remove(0x23);
        checks.same("10: without the empty entry", 1 << 4, () -> v.names(2));
        for (int name = 3; name <= 15; name++) {
            v.make(name, name % 2 == 0);
        }
        checks.same("10: all names", 0xFFFE, () -> v.names(0));
    }

    private static void free() {
        ClusterVolume v = new ClusterVolume();
        v.make(1, false);
        checks.same("11: the root's own cluster was no free one", 31, v::free);
        v.make(2, true);
        checks.same("11: an entry takes one", 30, v::free);
        appendUpTo(v, 1, 5);
        checks.same("11: two of a file", 28, v::free);
        appendUpTo(v, 1, 30 * 4);
        checks.same("11: none", 0, v::free);
        v.remove(1);
        checks.same("11: after a remove", 30, v::free);
    }

    private static void arm() {
        ClusterVolume v = small();
        v.arm(3);
        checks.same("12: three writes", 1, () -> v.append(1, 5));
        checks.throwing("12: but no more", DOWN, () -> v.append(1, 6));
        v.mount();
        v.arm(0);
        v.arm(2);
        checks.same("12: in place of what was told before", 2, () -> v.append(1, 6));
        v.arm(0);
        v.arm(-1);
        checks.same("12: below 0", 3, () -> v.append(1, 6));
        v.arm(0);
        v.arm(Integer.MIN_VALUE);
        checks.same("12: far below 0", 4, () -> v.append(1, 6));
        v.arm(0);
        checks.same("12: calls that do not write", 6, () -> v.get(1, 3));
        checks.same("12: names", 1 << 1 | 1 << 2, () -> v.names(0));
        checks.throwing("12: other exceptions come before the write", NOT_SO, () -> v.remove(2));
        checks.throwing("12: the first write", DOWN, () -> v.rename(1, 9));
        v.arm(-1);
        checks.throwing("12: arm brings no power back", DOWN, () -> v.length(1));
        v.arm(0);
        v.mount();
        checks.same("12: mount takes back what was told while down", 9, () -> v.rename(1, 9));
        v.arm(Integer.MAX_VALUE);
        checks.same("12: very many writes", 5, () -> v.append(9, 6));
    }

    private static void isDown() {
        ClusterVolume v = small();
        v.arm(0);
        checks.same("13: armed, but up", false, v::isDown);
        checks.throwing("13: the write", DOWN, () -> v.make(5, false));
        checks.same("13: down", true, v::isDown);
        v.arm(5);
        checks.same("13: still down", true, v::isDown);
        v.mount();
        checks.same("13: up", false, v::isDown);
        checks.throwing("13: another exception", NOWHERE, () -> v.length(9));
        checks.same("13: leaves it up", false, v::isDown);
    }

    private static void mount() {
        ClusterVolume v = small();
        appendUpTo(v, 0x23, 20);
        v.arm(0);
        checks.same("14: while up", 0, v::mount);
        checks.same("14: it is not armed then", 21, () -> v.append(0x23, 1));
        v.arm(1);
        checks.throwing("14: shorten without END", DOWN, () -> v.shorten(0x23, 5));
        checks.same("14: the chain is longer", 6, () -> v.table(5));
        checks.same("14: four are freed", 4, v::mount);
        checks.same("14: the END is set", -1, () -> v.table(5));
        checks.same("14: cells stay", "108 109 110 111", () -> Checks.clusterOf(v, 6));
        checks.same("14: the length", 5, () -> v.length(0x23));
        checks.same("14: nothing more", 0, v::mount);
        v.arm(2);
        checks.throwing("14: remove after one FREE", DOWN, () -> v.remove(0x23));
        checks.same("14: the other one is freed", 1, v::mount);
        checks.same("14: free", 28, v::free);
        v.make(0x241, true);
        v.make(0x2411, false);
        appendUpTo(v, 0x2411, 4);
        v.arm(3);
        checks.throwing("14: append deep down, but for the entry", DOWN,
                () -> v.append(0x2411, 1));
        String before = Checks.diskOf(v);
        checks.same("14: the cluster behind", 7, () -> v.table(6));
        checks.same("14: one is freed", 1, v::mount);
        checks.same("14: only the table changes",
                before.replace("103 then 7", "103 then -1").replace("1 0 0 0 then -1",
                        "1 0 0 0 then -2"), () -> Checks.diskOf(v));
        v.arm(2);
        checks.throwing("14: make, but for the link", DOWN, () -> v.make(3, true));
        checks.same("14: the entry is freed", 1, v::mount);
        checks.same("14: and not there", 1 << 1 | 1 << 2, () -> v.names(0));
        v.arm(1);
        checks.throwing("14: remove, all of its chain", DOWN, () -> v.remove(0x2411));
        checks.same("14: that chain is freed", 1, v::mount);
    }

    private static void cell() {
        ClusterVolume v = small();
        v.append(1, 77);
        checks.same("15: an entry's length", 1, () -> v.cell(0, 3));
        checks.same("15: a file's cell", 77, () -> v.cell(4, 0));
        checks.same("15: a cell of a free cluster", 0, () -> v.cell(31, 3));
        int[][] wrong = {{-1, 0}, {32, 0}, {0, -1}, {0, 4}, {4, -16}, {5, -4}, {-1, 4}, {3, 4},
            {Integer.MAX_VALUE, 0}, {Integer.MIN_VALUE, 0}, {0, Integer.MAX_VALUE},
            {0, Integer.MIN_VALUE}, {1 << 30, 0}};
        for (int[] pair : wrong) {
            checks.same("15: cell(" + pair[0] + ", " + pair[1] + ")", 0,
                    () -> v.cell(pair[0], pair[1]));
        }
        v.arm(0);
        checks.throwing("15: down", DOWN, () -> v.put(1, 0, 3));
        checks.same("15: while down", 77, () -> v.cell(4, 0));
    }

    private static void table() {
        ClusterVolume v = small();
        checks.same("16: a next one", 1, () -> v.table(0));
        checks.same("16: END", -1, () -> v.table(1));
        checks.same("16: FREE", -2, () -> v.table(31));
        int[] wrong = {-1, 32, Integer.MAX_VALUE, Integer.MIN_VALUE};
        for (int cluster : wrong) {
            checks.same("16: table(" + cluster + ")", 0, () -> v.table(cluster));
        }
        v.arm(0);
        checks.throwing("16: down", DOWN, () -> v.make(9, true));
        checks.same("16: while down", 1, () -> v.table(0));
    }

    private static void noPaths() {
        ClusterVolume v = small();
        for (int path : NO_PATHS) {
            String of = " of " + path;
            checks.throwing("make" + of, NO_PATH, () -> v.make(path, true));
            checks.throwing("remove" + of, NO_PATH, () -> v.remove(path));
            checks.throwing("rename" + of, NO_PATH, () -> v.rename(path, 1));
            checks.throwing("append" + of, NO_PATH, () -> v.append(path, 1));
            checks.throwing("get" + of, NO_PATH, () -> v.get(path, -1));
            checks.throwing("put" + of, NO_PATH, () -> v.put(path, -1, 0));
            checks.throwing("shorten" + of, NO_PATH, () -> v.shorten(path, -1));
            checks.throwing("length" + of, NO_PATH, () -> v.length(path));
            checks.throwing("names" + of, NO_PATH, () -> v.names(path));
        }
        checks.throwing("the highest path is one", NOWHERE, () -> v.length(0xFFFF));
    }

    private static void downComesFirst() {
        ClusterVolume v = small();
        v.arm(0);
        checks.throwing("down: the write", DOWN, () -> v.make(5, false));
        int[] paths = {0, 1, 2, 9, -1, 0x10, 0x11};
        for (int path : paths) {
            String of = " while down of " + path;
            checks.throwing("make" + of, DOWN, () -> v.make(path, true));
            checks.throwing("remove" + of, DOWN, () -> v.remove(path));
            checks.throwing("rename" + of, DOWN, () -> v.rename(path, 0));
            checks.throwing("append" + of, DOWN, () -> v.append(path, 1));
            checks.throwing("get" + of, DOWN, () -> v.get(path, 0));
            checks.throwing("put" + of, DOWN, () -> v.put(path, 0, 0));
            checks.throwing("shorten" + of, DOWN, () -> v.shorten(path, 0));
            checks.throwing("length" + of, DOWN, () -> v.length(path));
            checks.throwing("names" + of, DOWN, () -> v.names(path));
        }
        checks.throwing("free while down", DOWN, v::free);
    }

    private static void throwingChangesNothing() {
        ClusterVolume v = small();
        appendUpTo(v, 1, 28 * 4);
        String before = Checks.diskOf(v);
        checks.throwing("make", FULL, () -> v.make(5, true));
        checks.throwing("make", FULL, () -> v.make(0x241, true));
        checks.throwing("make", NOT_SO, () -> v.make(1, true));
        checks.throwing("remove", NOT_SO, () -> v.remove(2));
        checks.throwing("rename", NOT_SO, () -> v.rename(1, 2));
        checks.throwing("append", FULL, () -> v.append(1, 1));
        checks.throwing("append", FULL, () -> v.append(0x23, 1));
        checks.throwing("put", NO_PLACE, () -> v.put(1, 112, 1));
        checks.throwing("shorten", NO_PLACE, () -> v.shorten(1, 113));
        checks.same("the disk after calls that threw", before, () -> Checks.diskOf(v));
    }
}
