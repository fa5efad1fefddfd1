import java.util.NoSuchElementException;

/** Paths that are none, paths that lead nowhere, the root, and the order of exceptions. */
public final class ExceptionsTest {
    private static final String ORDER =
            "Exceptions are looked for in the order in which a method's throws clause names them.";
    private static final String NOT_THERE = "the path leads nowhere (a name that is not there";
    private static final String THE_ROOT =
            "also for the root, where a file, or an entry, is needed";

    public static void main(String[] args) {
        SentenceTests.run(ExceptionsTest.class);
    }

    @Sentence("the path is none (a digit 0 below another one")
    static void aDigitZeroBelowAnotherOne(Checks c) {
        allCallsRefuse(c, IllegalArgumentException.class, 0x10, 0x20, 0x90, 0x100, 0x101, 0x110,
                0x230, 0x203, 0x1000, 0x1001, 0x1010, 0x1011, 0x1100, 0x1101, 0x1110);
    }

    @Sentence("below 0")
    static void aPathBelowZero(Checks c) {
        allCallsRefuse(c, IllegalArgumentException.class, -1, -2, -0x11, -0xFFFF, -0xFFFFFFF,
                Integer.MIN_VALUE, Integer.MIN_VALUE + 0x1111);
    }

    @Sentence("or more than four)")
    static void aPathOfMoreThanFourDigits(Checks c) {
        allCallsRefuse(c, IllegalArgumentException.class, 0x10000, 0x10001, 0x11111, 0xFFFFF,
                0x111111, 0x1111111, 0x11111111, Integer.MAX_VALUE);
    }

    @Sentence("A PATH is a number of at most four digits to the base 16, the highest one first,"
            + " each a name 1 .. 15; 0 is the path of the root.")
    static void allNumbersArePathsOrNot(Checks c) {
        ClusterVolume v = new ClusterVolume();
        for (int path = -0x200; path <= 0x11200; path++) {
            if (path % 256 == 0) {
                v = new ClusterVolume();
            }
            ClusterVolume fresh = v;
            int number = path;
            c.same("length of " + path, dueForLength(path), () -> fresh.length(number));
        }
    }

    private static Object dueForLength(int path) {
        if (path == 0) {
            return -1;
        }
        String digits = Integer.toHexString(path);
        boolean none = path < 0 || digits.length() > 4 || digits.contains("0");
        return none ? IllegalArgumentException.class : NoSuchElementException.class;
    }

    @Sentence(NOT_THERE)
    static void aNameThatIsNotThere(Checks c) {
        for (PathCall call : PathCall.values()) {
            ClusterVolume v = Volumes.small();
            v.make(0x241, true);
            int[] paths = {0x91, 0x291, 0x911, 0x2491, 0x2911, 0x9111};
            for (int path : paths) {
                c.same(call + " of " + Integer.toHexString(path), NoSuchElementException.class,
                        () -> call.on(v, path));
            }
        }
    }

    @Sentence(NOT_THERE)
    static void aLastNameThatIsNotThere(Checks c) {
        for (PathCall call : PathCall.values()) {
            ClusterVolume v = Volumes.small();
            v.make(0x241, true);
            int[] paths = {9, 0x29, 0x249, 0x2419};
            for (int path : paths) {
                Object answer = Checks.answerOf(() -> call.on(v, path));
                c.same(call + " of " + Integer.toHexString(path), call != PathCall.MAKE,
                        () -> answer == NoSuchElementException.class);
            }
        }
    }

    @Sentence(NOT_THERE)
    static void aNameInADirectoryWithoutClusters(Checks c) {
        for (PathCall call : PathCall.values()) {
            ClusterVolume v = Volumes.small();
            Object due = call == PathCall.MAKE ? (Object) 4 : NoSuchElementException.class;
            c.same(call + " of a name", due, () -> call.on(v, 0x245));
        }
    }

    @Sentence("or a file on the way)")
    static void aFileOnTheWay(Checks c) {
        for (PathCall call : PathCall.values()) {
            ClusterVolume v = Volumes.small();
            v.make(0x241, true);
            v.make(0x2411, false);
            v.make(0x242, false);
            int[] paths = {0x11, 0x111, 0x1111, 0x231, 0x2311, 0x2421};
            for (int path : paths) {
                c.same(call + " of " + Integer.toHexString(path), NoSuchElementException.class,
                        () -> call.on(v, path));
            }
        }
    }

    @Sentence("or a file on the way)")
    static void aFileOnTheWayWhoseNumbersLookLikeAnEntry(Checks c) {
        for (PathCall call : PathCall.values()) {
            ClusterVolume v = Volumes.small();
            for (int number : new int[] {1, 1, -1, 0}) {
                v.append(1, number);
            }
            c.same(call + " of 11", NoSuchElementException.class, () -> call.on(v, 0x11));
        }
    }

    @Sentence(THE_ROOT)
    static void theRootWhereAFileIsNeeded(Checks c) {
        ClusterVolume v = Volumes.small();
        Class<?> due = UnsupportedOperationException.class;
        c.same("append", due, () -> v.append(0, 1));
        c.same("get", due, () -> v.get(0, 0));
        c.same("put", due, () -> v.put(0, 0, 1));
        c.same("shorten", due, () -> v.shorten(0, 0));
    }

    @Sentence(THE_ROOT)
    static void theRootWhereAnEntryIsNeeded(Checks c) {
        ClusterVolume v = Volumes.small();
        c.same("remove", UnsupportedOperationException.class, () -> v.remove(0));
        c.same("rename", UnsupportedOperationException.class, () -> v.rename(0, 5));
        c.same("make", UnsupportedOperationException.class, () -> v.make(0, true));
    }

    @Sentence(THE_ROOT)
    static void theRootWithoutEntriesIsNoOther(Checks c) {
        for (PathCall call : PathCall.values()) {
            boolean looks = call == PathCall.LENGTH || call == PathCall.NAMES;
            Object answer = call == PathCall.LENGTH ? -1 : 0;
            c.same(call + " of 0", looks ? answer : UnsupportedOperationException.class,
                    () -> call.on(new ClusterVolume(), 0));
        }
    }

    @Sentence(ORDER)
    static void orderInMake(Checks c) {
        ClusterVolume v = Volumes.full();
        c.same("no path, before nowhere", IllegalArgumentException.class,
                () -> v.make(0x901, true));
        c.same("no path, before there already", IllegalArgumentException.class,
                () -> v.make(0x10002, true));
        c.same("no path, before full", IllegalArgumentException.class, () -> v.make(0x20, true));
        c.same("nowhere, before full", NoSuchElementException.class, () -> v.make(0x91, true));
        c.same("a file on the way, before full", NoSuchElementException.class,
                () -> v.make(0x11, true));
        c.same("the root, before full", UnsupportedOperationException.class,
                () -> v.make(0, true));
        c.same("there already, before full", UnsupportedOperationException.class,
                () -> v.make(0x24, true));
    }

    @Sentence(ORDER)
    static void orderInRemove(Checks c) {
        ClusterVolume v = Volumes.small();
        c.same("no path, before nowhere", IllegalArgumentException.class, () -> v.remove(0x901));
        c.same("no path, before a directory with names", IllegalArgumentException.class,
                () -> v.remove(0x10002));
    }

    @Sentence(ORDER)
    static void orderInRename(Checks c) {
        ClusterVolume v = Volumes.small();
        c.same("no path, before nowhere", IllegalArgumentException.class,
                () -> v.rename(0x901, 5));
        c.same("no path, before a name there", IllegalArgumentException.class,
                () -> v.rename(0x10001, 2));
        c.same("no name, before nowhere", IllegalArgumentException.class, () -> v.rename(9, 0));
        c.same("no name, before a file on the way", IllegalArgumentException.class,
                () -> v.rename(0x11, 16));
        c.same("no name, before the root", IllegalArgumentException.class,
                () -> v.rename(0, 16));
        c.same("nowhere, before a name there", NoSuchElementException.class,
                () -> v.rename(9, 1));
        c.same("nowhere, before a name there", NoSuchElementException.class,
                () -> v.rename(0x29, 4));
    }

    @Sentence(ORDER)
    static void orderInAppend(Checks c) {
        ClusterVolume v = Volumes.full();
        c.same("no path, before nowhere", IllegalArgumentException.class,
                () -> v.append(0x901, 1));
        c.same("no path, before full", IllegalArgumentException.class,
                () -> v.append(0x10001, 1));
        c.same("nowhere, before full", NoSuchElementException.class, () -> v.append(9, 1));
        c.same("a directory, before full", UnsupportedOperationException.class,
                () -> v.append(2, 1));
        c.same("the root, before full", UnsupportedOperationException.class,
                () -> v.append(0, 1));
    }

    @Sentence(ORDER)
    static void orderInGet(Checks c) {
        ClusterVolume v = Volumes.small();
        orderBeforePlaces(c, (path, i) -> v.get(path, i));
    }

    @Sentence(ORDER)
    static void orderInPut(Checks c) {
        ClusterVolume v = Volumes.small();
        orderBeforePlaces(c, (path, i) -> v.put(path, i, 1));
    }

    @Sentence(ORDER)
    static void orderInShorten(Checks c) {
        ClusterVolume v = Volumes.small();
        orderBeforePlaces(c, (path, length) -> v.shorten(path, length));
    }

    @Sentence(ORDER)
    static void orderInLengthAndNames(Checks c) {
        ClusterVolume v = Volumes.small();
        c.same("length: no path, before nowhere", IllegalArgumentException.class,
                () -> v.length(0x901));
        c.same("names: no path, before nowhere", IllegalArgumentException.class,
                () -> v.names(0x901));
        c.same("names: no path, before a file", IllegalArgumentException.class,
                () -> v.names(0x10001));
        c.same("names: a file on the way, before a file", NoSuchElementException.class,
                () -> v.names(0x11));
    }

    private interface PlaceCall {
        int run(int path, int i);
    }

    private static void orderBeforePlaces(Checks c, PlaceCall call) {
        for (int i : new int[] {-1, 1000}) {
            c.same("no path, before nowhere", IllegalArgumentException.class,
                    () -> call.run(0x901, i));
            c.same("no path, before a directory", IllegalArgumentException.class,
                    () -> call.run(0x10002, i));
            c.same("no path, before no place", IllegalArgumentException.class,
                    () -> call.run(0x10001, i));
            c.same("nowhere, before no place", NoSuchElementException.class,
                    () -> call.run(9, i));
            c.same("a file on the way, before no place", NoSuchElementException.class,
                    () -> call.run(0x11, i));
            c.same("a directory, before no place", UnsupportedOperationException.class,
                    () -> call.run(2, i));
            c.same("the root, before no place", UnsupportedOperationException.class,
                    () -> call.run(0, i));
        }
    }

    /** With empty entries, which have the name 0, in the root and in directory 2. */
    private static void allCallsRefuse(Checks c, Class<?> due, int... paths) {
        ClusterVolume v = Volumes.small();
        v.make(5, true);
        v.remove(5);
        v.make(0x26, true);
        v.remove(0x26);
        for (PathCall call : PathCall.values()) {
            for (int path : paths) {
                c.same(call + " of " + path, due, () -> call.on(v, path));
            }
        }
    }
}
