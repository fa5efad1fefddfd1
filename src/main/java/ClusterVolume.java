import java.util.NoSuchElementException;

/**
 * A volume of clusters: files and directories are chains of clusters in a table, and directories
 * are files of entries. Each call brings its writes to the disk one by one, so that the power can
 * be lost between any two of them; mount() then sets right what hangs loose.
 */
public final class ClusterVolume {
    public static final int FREE = -2;
    public static final int END = -1;
    public static final int NONE = -1;

    private static final int CLUSTERS = 32;
    private static final int CELLS = 4;

    /** The cells of a cluster that is an entry. */
    private static final int NAME = 0;
    private static final int KIND = 1;
    private static final int FIRST = 2;
    private static final int LENGTH = 3;

    private static final int FILE = 1;
    private static final int DIRECTORY = 2;

    private static final int HIGHEST_NAME = 15;
    private static final int HIGHEST_PATH = 0xFFFF;
    private static final int DIGIT_BITS = 4;
    private static final int DIGIT_MASK = 15;
    private static final int HIGHEST_SHIFT = 12;

    private static final int ROOT_CLUSTER = 0;
    /** Stands for the entry of the root, which has none on the disk. */
    private static final int ROOT = -3;

    private static final int ANY_NUMBER = -1;

    private final Disk disk;
    /** Rows of the check in mount(), kept so that no mount makes new ones. */
    private final boolean[] reached;
    private final int[] entries;
    private int entryCount;

    public ClusterVolume() {
        disk = new Disk();
        reached = new boolean[CLUSTERS];
        entries = new int[CLUSTERS];
        entryCount = 0;
    }

    public int make(int path, boolean directory)
            throws IllegalStateException, IllegalArgumentException, NoSuchElementException,
            UnsupportedOperationException, ArithmeticException {
        requireUp();
        requirePath(path);
        int parent = entryAt(path >> DIGIT_BITS);
        if (!isDirectory(parent)) {
            throw new NoSuchElementException("a file is on the way");
        }
        int name = path & DIGIT_MASK;
        if (path == 0 || entryNamed(parent, name) != NONE) {
            throw new UnsupportedOperationException("the path is there already");
        }
        int kind = directory ? DIRECTORY : FILE;
        int empty = entryNamed(parent, 0);
        if (empty != NONE) {
            disk.writeCluster(empty, name, kind, NONE, 0);
            return empty;
        }
        int taken = clusterToTake();
        disk.writeCluster(taken, name, kind, NONE, 0);
        disk.writeTable(taken, END);
        linkToDirectory(parent, taken);
        return taken;
    }

    public int remove(int path)
            throws IllegalStateException, IllegalArgumentException, NoSuchElementException,
            UnsupportedOperationException {
        requireUp();
        requirePath(path);
        int entry = entryAt(path);
        if (entry == ROOT) {
            throw new UnsupportedOperationException("the root stays");
        }
        if (isDirectory(entry) && namesIn(entry) != 0) {
            throw new UnsupportedOperationException("the directory has names");
        }
        int first = firstOf(entry);
        disk.writeCluster(entry, 0, 0, 0, 0);
        return freeChain(first);
    }

    public int rename(int path, int name)
            throws IllegalStateException, IllegalArgumentException, NoSuchElementException,
            UnsupportedOperationException {
        requireUp();
        requirePath(path);
        if (name < 1 || name > HIGHEST_NAME) {
            throw new IllegalArgumentException("a name is 1 to 15");
        }
        int entry = entryAt(path);
        if (entry == ROOT) {
            throw new UnsupportedOperationException("the root has no name");
        }
        int parentPath = path >> DIGIT_BITS;
        if (entryNamed(entryAt(parentPath), name) != NONE) {
            throw new UnsupportedOperationException("the name is there already");
        }
        disk.writeCell(entry, NAME, name);
        return (parentPath << DIGIT_BITS) | name;
    }

    public int append(int path, int number)
            throws IllegalStateException, IllegalArgumentException, NoSuchElementException,
            UnsupportedOperationException, ArithmeticException {
        requireUp();
        requirePath(path);
        int file = fileAt(path);
        int length = lengthOf(file);
        int used = length % CELLS;
        if (used == 0) {
            appendWithCluster(file, number);
        } else {
            disk.writeCell(lastOfChain(firstOf(file)), used, number);
            disk.writeCell(file, LENGTH, length + 1);
        }
        return length + 1;
    }

    public int get(int path, int i)
            throws IllegalStateException, IllegalArgumentException, NoSuchElementException,
            UnsupportedOperationException, IndexOutOfBoundsException {
        requireUp();
        requirePath(path);
        int file = fileAt(path);
        requirePlace(file, i);
        return disk.cellAt(clusterOfPlace(file, i), i % CELLS);
    }

    public int put(int path, int i, int number)
            throws IllegalStateException, IllegalArgumentException, NoSuchElementException,
            UnsupportedOperationException, IndexOutOfBoundsException {
        requireUp();
        requirePath(path);
        int file = fileAt(path);
        requirePlace(file, i);
        int cluster = clusterOfPlace(file, i);
        int before = disk.cellAt(cluster, i % CELLS);
        disk.writeCell(cluster, i % CELLS, number);
        return before;
    }

    public int shorten(int path, int length)
            throws IllegalStateException, IllegalArgumentException, NoSuchElementException,
            UnsupportedOperationException, IndexOutOfBoundsException {
        requireUp();
        requirePath(path);
        int file = fileAt(path);
        if (length < 0 || length > lengthOf(file)) {
            throw new IndexOutOfBoundsException("a file is cut to 0 up to its own length");
        }
        if (length == lengthOf(file)) {
            return 0;
        }
        int first = firstOf(file);
        if (length == 0) {
            writeExtent(file, NONE, 0);
            return freeChain(first);
        }
        int last = clusterOfPlace(file, length - 1);
        writeExtent(file, first, length);
        return freeBehind(last);
    }

    public int length(int path)
            throws IllegalStateException, IllegalArgumentException, NoSuchElementException {
        requireUp();
        requirePath(path);
        int entry = entryAt(path);
        return isDirectory(entry) ? -1 - Integer.bitCount(namesIn(entry)) : lengthOf(entry);
    }

    public int names(int path)
            throws IllegalStateException, IllegalArgumentException, NoSuchElementException,
            UnsupportedOperationException {
        requireUp();
        requirePath(path);
        int entry = entryAt(path);
        if (!isDirectory(entry)) {
            throw new UnsupportedOperationException("a file has no names");
        }
        return namesIn(entry);
    }

    public int free() throws IllegalStateException {
        requireUp();
        int count = 0;
        for (int cluster = 0; cluster < CLUSTERS; cluster++) {
            if (disk.nextAfter(cluster) == FREE) {
                count++;
            }
        }
        return count;
    }

    public void arm(int writes) {
        disk.allowWrites(writes);
    }

    public boolean isDown() {
        return disk.hasLostPower();
    }

    public int mount() {
        disk.powerUp();
        checkTree();
        return freeUnreached();
    }

    public int cell(int cluster, int i) {
        return disk.cellAt(cluster, i);
    }

    public int table(int cluster) {
        return isCluster(cluster) ? disk.nextAfter(cluster) : 0;
    }

    private void requireUp() {
        if (disk.hasLostPower()) {
            throw new IllegalStateException("the volume is down");
        }
    }

    private static void requirePath(int path) {
        if (path < 0 || path > HIGHEST_PATH) {
            throw new IllegalArgumentException("a path has at most four digits");
        }
        boolean begun = false;
        for (int shift = HIGHEST_SHIFT; shift >= 0; shift -= DIGIT_BITS) {
            int digit = (path >> shift) & DIGIT_MASK;
            if (begun && digit == 0) {
                throw new IllegalArgumentException("a digit of a path is 0");
            }
            begun = begun || digit != 0;
        }
    }

    private void requirePlace(int file, int i) {
        if (i < 0 || i >= lengthOf(file)) {
            throw new IndexOutOfBoundsException("the file has no such cell");
        }
    }

    /** The cluster of the entry that a path leads to, or ROOT. */
    private int entryAt(int path) {
        int entry = ROOT;
        for (int shift = HIGHEST_SHIFT; shift >= 0; shift -= DIGIT_BITS) {
            int name = (path >> shift) & DIGIT_MASK;
            if (name != 0) {
                entry = entryNamed(entry, name);
            }
            if (entry == NONE) {
                throw new NoSuchElementException("the path leads nowhere");
            }
        }
        return entry;
    }

    private int fileAt(int path) {
        int entry = entryAt(path);
        if (isDirectory(entry)) {
            throw new UnsupportedOperationException("a file is needed");
        }
        return entry;
    }

    /** The first entry with a name (0 for an empty one); NONE also if the parent is a file. */
    private int entryNamed(int parent, int name) {
        int cluster = isDirectory(parent) ? firstOf(parent) : NONE;
        for (int steps = 0; steps < CLUSTERS && isCluster(cluster); steps++) {
            if (disk.cellAt(cluster, NAME) == name) {
                return cluster;
            }
            cluster = disk.nextAfter(cluster);
        }
        return NONE;
    }

    /** A bit for each name that is there; the empty entries, whose name is 0, leave no bit. */
    private int namesIn(int directory) {
        int names = 0;
        int cluster = firstOf(directory);
        for (int steps = 0; steps < CLUSTERS && isCluster(cluster); steps++) {
            names |= 1 << disk.cellAt(cluster, NAME);
            cluster = disk.nextAfter(cluster);
        }
        return names & ~1;
    }

    private boolean isDirectory(int entry) {
        return entry == ROOT || disk.cellAt(entry, KIND) == DIRECTORY;
    }

    private int firstOf(int entry) {
        return entry == ROOT ? ROOT_CLUSTER : disk.cellAt(entry, FIRST);
    }

    private int lengthOf(int file) {
        return disk.cellAt(file, LENGTH);
    }

    private int lastOfChain(int first) {
        int last = first;
        for (int steps = 0; steps < CLUSTERS && isCluster(disk.nextAfter(last)); steps++) {
            last = disk.nextAfter(last);
        }
        return last;
    }

    private int clusterOfPlace(int file, int i) {
        int cluster = firstOf(file);
        for (int steps = i / CELLS; steps > 0; steps--) {
            cluster = disk.nextAfter(cluster);
        }
        return cluster;
    }

    /** To be called before the first write: a call that throws for lack of room writes nothing. */
    private int clusterToTake() {
        for (int cluster = 0; cluster < CLUSTERS; cluster++) {
            if (disk.nextAfter(cluster) == FREE) {
                return cluster;
            }
        }
        throw new ArithmeticException("no cluster is free");
    }

    private void linkToDirectory(int directory, int taken) {
        int first = firstOf(directory);
        if (first == NONE) {
            disk.writeCell(directory, FIRST, taken);
        } else {
            disk.writeTable(lastOfChain(first), taken);
        }
    }

    /** The entry comes last, so that the file never claims a cluster that is not linked yet. */
    private void appendWithCluster(int file, int number) {
        int length = lengthOf(file);
        int first = firstOf(file);
        int taken = clusterToTake();
        disk.writeCluster(taken, number, 0, 0, 0);
        disk.writeTable(taken, END);
        if (length == 0) {
            writeExtent(file, taken, 1);
        } else {
            disk.writeTable(lastOfChain(first), taken);
            writeExtent(file, first, length + 1);
        }
    }

    /** First cluster and length in a single write, so that no loss of power can part them. */
    private void writeExtent(int file, int first, int length) {
        disk.writeCluster(file, disk.cellAt(file, NAME), disk.cellAt(file, KIND), first, length);
    }

    private int freeBehind(int last) {
        int rest = disk.nextAfter(last);
        if (!isCluster(rest)) {
            return 0;
        }
        disk.writeTable(last, END);
        return freeChain(rest);
    }

    private int freeChain(int first) {
        int freed = 0;
        int cluster = first;
        while (freed < CLUSTERS && isCluster(cluster)) {
            int next = disk.nextAfter(cluster);
            disk.writeTable(cluster, FREE);
            cluster = next;
            freed++;
        }
        return freed;
    }

    private void checkTree() {
        for (int cluster = 0; cluster < CLUSTERS; cluster++) {
            reached[cluster] = false;
        }
        entryCount = 0;
        reachChain(ROOT_CLUSTER, true);
        // The row grows while it is gone through: directories put their entries behind the others.
        for (int at = 0; at < CLUSTERS && at < entryCount; at++) {
            int entry = entries[at];
            if (disk.cellAt(entry, NAME) == 0) {
                continue;
            }
            boolean directory = isDirectory(entry);
            if (!directory) {
                cutToLength(entry);
            }
            reachChain(firstOf(entry), directory);
        }
    }

    private void reachChain(int first, boolean ofEntries) {
        int cluster = first;
        for (int steps = 0; steps < CLUSTERS && isCluster(cluster); steps++) {
            reached[cluster] = true;
            if (ofEntries && entryCount < CLUSTERS) {
                entries[entryCount] = cluster;
                entryCount++;
            }
            cluster = disk.nextAfter(cluster);
        }
    }

    /** What the chain has behind its END is not reached then, and so becomes FREE. */
    private void cutToLength(int file) {
        int length = lengthOf(file);
        if (length > 0) {
            disk.writeTable(clusterOfPlace(file, length - 1), END);
        }
    }

    private int freeUnreached() {
        int freed = 0;
        for (int cluster = 0; cluster < CLUSTERS; cluster++) {
            if (!reached[cluster] && disk.nextAfter(cluster) != FREE) {
                disk.writeTable(cluster, FREE);
                freed++;
            }
        }
        return freed;
    }

    private static boolean isCluster(int number) {
        return number >= 0 && number < CLUSTERS;
    }

    /** The cells and the table, changed by single writes as long as there is power for them. */
    private static final class Disk {
        private final int[] cells;
        private final int[] nexts;
        private int writesLeft;
        private boolean down;

        Disk() {
            cells = new int[CLUSTERS * CELLS];
            nexts = new int[CLUSTERS];
            for (int cluster = 0; cluster < CLUSTERS; cluster++) {
                nexts[cluster] = cluster == ROOT_CLUSTER ? END : FREE;
            }
            writesLeft = ANY_NUMBER;
            down = false;
        }

        int cellAt(int cluster, int i) {
            return isCluster(cluster) && i >= 0 && i < CELLS ? cells[cluster * CELLS + i] : 0;
        }

        int nextAfter(int cluster) {
            return isCluster(cluster) ? nexts[cluster] : END;
        }

        void writeCluster(int cluster, int cell0, int cell1, int cell2, int cell3) {
            spendWrite();
            if (isCluster(cluster)) {
                int at = cluster * CELLS;
                cells[at] = cell0;
                cells[at + 1] = cell1;
                cells[at + 2] = cell2;
                cells[at + 3] = cell3;
            }
        }

        /** A write of a whole cluster, too, whose other three cells stay as they are. */
        void writeCell(int cluster, int i, int number) {
            spendWrite();
            if (isCluster(cluster) && i >= 0 && i < CELLS) {
                cells[cluster * CELLS + i] = number;
            }
        }

        void writeTable(int cluster, int next) {
            spendWrite();
            if (isCluster(cluster)) {
                nexts[cluster] = next;
            }
        }

        void allowWrites(int writes) {
            writesLeft = writes < 0 ? ANY_NUMBER : writes;
        }

        boolean hasLostPower() {
            return down;
        }

        void powerUp() {
            down = false;
            writesLeft = ANY_NUMBER;
        }

        private void spendWrite() {
            if (writesLeft == 0) {
                down = true;
                throw new IllegalStateException("the power is lost");
            }
            if (writesLeft > 0) {
                writesLeft--;
            }
        }
    }
}
