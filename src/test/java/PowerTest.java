import java.util.NoSuchElementException;

/** The power lost in each write of each call, the calls while the volume is down, and mount(). */
public final class PowerTest {
    private static final String ARMED =
            "when arm(n) was called with n from 0 on, n writes more are done; the next one is not,"
            + " and the power is LOST in it";
    private static final String LOST =
            "the call in which that happens throws an IllegalStateException (all writes before"
            + " stay), and the volume is DOWN";
    private static final String DOWN =
            "While it is down, all calls but arm, mount, isDown, cell and table throw an"
            + " IllegalStateException, before anything else.";
    private static final String CHANGES_NOTHING = "Otherwise a call that throws changes nothing.";
    private static final String LONGER_CHAIN =
            "a file whose chain has more clusters than its length needs gets END at the last one"
            + " that it needs";
    private static final String NOT_REACHED =
            "all clusters that are not in the chain of the root or of a file or directory reached"
            + " from it become FREE, if they are not";

    public static void main(String[] args) {
        SentenceTests.run(PowerTest.class);
    }

    @Sentence(ARMED)
    static void armedWithZeroTheFirstWriteIsLost(Checks c) {
        ClusterVolume v = Volumes.after(Volumes.smallWithFile(1));
        v.arm(0);
        c.same("armed only", false, v::isDown);
        c.same("put", IllegalStateException.class, () -> v.put(1, 0, 9));
        c.same("down", true, v::isDown);
        c.same("the cell", 100, () -> v.cell(4, 0));
    }

    @Sentence(ARMED)
    static void theLastWriteThatIsLeftIsDoneAndLosesNothing(Checks c) {
        ClusterVolume v = Volumes.after(Volumes.smallWithFile(1));
        v.arm(1);
        c.same("put", 100, () -> v.put(1, 0, 9));
        c.same("still up", false, v::isDown);
        c.same("a call without a write", 9, () -> v.get(1, 0));
        c.same("put once more", IllegalStateException.class, () -> v.put(1, 0, 10));
        c.same("down", true, v::isDown);
    }

    @Sentence(ARMED)
    static void writesAreCountedOverSeveralCalls(Checks c) {
        ClusterVolume v = Volumes.small();
        v.arm(8);
        c.same("three", 1, () -> v.append(1, 7));
        c.same("two", 2, () -> v.append(1, 7));
        c.same("one", 7, () -> v.put(1, 0, 8));
        c.same("none", 0, () -> v.shorten(1, 2));
        c.same("one", 9, () -> v.rename(1, 9));
        c.same("one of three", IllegalStateException.class, () -> v.make(1, false));
        c.same("which is done", "1 1 -1 0", () -> Volumes.clusterOf(v, 5));
        c.same("and the next one not", -2, () -> v.table(5));
    }

    @Sentence(LOST)
    static void lostInMakeInAnEmptyEntry(Checks c) {
        losses(c, v -> { }, v -> v.make(1, true), 1, 0);
    }

    @Sentence(LOST)
    static void lostInMakeBehindOtherEntries(Checks c) {
        losses(c, Volumes::makeSmall, v -> v.make(0x25, true), 3, 0, 0, 1);
    }

    @Sentence(LOST)
    static void lostInMakeInADirectoryWithoutClusters(Checks c) {
        losses(c, Volumes::makeSmall, v -> v.make(0x241, false), 3, 0, 0, 1);
    }

    @Sentence(LOST)
    static void lostInRemoveOfAFileOfLengthZero(Checks c) {
        losses(c, Volumes::makeSmall, v -> v.remove(1), 1, 0);
    }

    @Sentence(LOST)
    static void lostInRemoveOfAFileOfThreeClusters(Checks c) {
        losses(c, Volumes.smallWithFile(9), v -> v.remove(1), 1, 0, 3, 2, 1);
    }

    @Sentence(LOST)
    static void lostInRemoveOfADirectoryOfEmptyEntries(Checks c) {
        losses(c, v -> {
            Volumes.makeSmall(v);
            v.remove(0x23);
            v.remove(0x24);
        }, v -> v.remove(2), 1, 0, 2, 1);
    }

    @Sentence(LOST)
    static void lostInRename(Checks c) {
        losses(c, Volumes::makeSmall, v -> v.rename(2, 5), 1, 0);
    }

    @Sentence(LOST)
    static void lostInAppendToALastClusterWithRoom(Checks c) {
        losses(c, Volumes.smallWithFile(6), v -> v.append(1, 9), 2, 0, 0);
    }

    @Sentence(LOST)
    static void lostInAppendToALastClusterWithoutRoom(Checks c) {
        losses(c, Volumes.smallWithFile(8), v -> v.append(1, 9), 4, 0, 0, 1, 1);
    }

    @Sentence(LOST)
    static void lostInAppendToAFileOfLengthZero(Checks c) {
        losses(c, Volumes::makeSmall, v -> v.append(0x23, 9), 3, 0, 0, 1);
    }

    @Sentence(LOST)
    static void lostInPut(Checks c) {
        losses(c, Volumes.smallWithFile(6), v -> v.put(1, 5, 9), 1, 0);
    }

    @Sentence(LOST)
    static void lostInShortenWithinACluster(Checks c) {
        losses(c, Volumes.smallWithFile(8), v -> v.shorten(1, 5), 1, 0);
    }

    @Sentence(LOST)
    static void lostInShortenByTwoClusters(Checks c) {
        losses(c, Volumes.smallWithFile(9), v -> v.shorten(1, 2), 1, 0, 2, 2, 1);
    }

    @Sentence(LOST)
    static void lostInShortenToZero(Checks c) {
        losses(c, Volumes.smallWithFile(9), v -> v.shorten(1, 0), 1, 0, 3, 2, 1);
    }

    @Sentence(DOWN)
    static void whileDownPathCallsThrowThatAlone(Checks c) {
        ClusterVolume v = Volumes.smallAndDown();
        int[] paths = {0, 1, 2, 0x23, 5, 9, 0x11, -1, 0x10, 0x11111};
        for (PathCall call : PathCall.values()) {
            for (int path : paths) {
                c.same(call + " of " + path, IllegalStateException.class, () -> call.on(v, path));
            }
        }
    }

    @Sentence(DOWN)
    static void whileDownOtherWrongArgumentsAreNotLookedAt(Checks c) {
        ClusterVolume v = Volumes.smallAndDown();
        c.same("rename to 0", IllegalStateException.class, () -> v.rename(1, 0));
        c.same("rename to its own name", IllegalStateException.class, () -> v.rename(1, 1));
        c.same("get of no cell", IllegalStateException.class, () -> v.get(1, -1));
        c.same("put at no cell", IllegalStateException.class, () -> v.put(1, 1, 0));
        c.same("shorten to below 0", IllegalStateException.class, () -> v.shorten(1, -1));
    }

    @Sentence(DOWN)
    static void whileDownAFullDiskIsNotLookedAt(Checks c) {
        ClusterVolume v = Volumes.full();
        Volumes.losePower(v);
        c.same("make", IllegalStateException.class, () -> v.make(5, false));
        c.same("append", IllegalStateException.class, () -> v.append(1, 1));
    }

    @Sentence(DOWN)
    static void whileDownFreeThrows(Checks c) {
        ClusterVolume v = Volumes.smallAndDown();
        c.same("free", IllegalStateException.class, v::free);
    }

    @Sentence(DOWN)
    static void whileDownTheOthersAnswer(Checks c) {
        ClusterVolume v = Volumes.smallAndDown();
        c.same("isDown", true, v::isDown);
        c.same("cell", 3, () -> v.cell(2, 0));
        c.same("no cell", 0, () -> v.cell(32, 0));
        c.same("table", 1, () -> v.table(0));
        c.same("no cell of the table", 0, () -> v.table(-1));
        c.same("arm", "done", () -> {
            v.arm(3);
            return "done";
        });
        c.same("mount", 0, v::mount);
    }

    @Sentence(DOWN)
    static void callsWhileDownChangeNothing(Checks c) {
        ClusterVolume v = Volumes.smallAndDown();
        for (PathCall call : PathCall.values()) {
            Checks.answerOf(() -> call.on(v, call == PathCall.MAKE ? 5 : 0x23));
        }
        c.same("the disk", Volumes.diskOf(Volumes.small()), () -> Volumes.diskOf(v));
    }

    @Sentence(CHANGES_NOTHING)
    static void aCallThatThrowsLeavesTheDisk(Checks c) {
        unchanged(c, v -> v.make(0x20, true), IllegalArgumentException.class);
        unchanged(c, v -> v.make(0x51, true), NoSuchElementException.class);
        unchanged(c, v -> v.make(0x24, true), UnsupportedOperationException.class);
        unchanged(c, v -> v.remove(2), UnsupportedOperationException.class);
        unchanged(c, v -> v.rename(1, 16), IllegalArgumentException.class);
        unchanged(c, v -> v.rename(1, 2), UnsupportedOperationException.class);
        unchanged(c, v -> v.append(2, 1), UnsupportedOperationException.class);
        unchanged(c, v -> v.get(1, 112), IndexOutOfBoundsException.class);
        unchanged(c, v -> v.put(1, 112, 1), IndexOutOfBoundsException.class);
        unchanged(c, v -> v.shorten(1, 113), IndexOutOfBoundsException.class);
        unchanged(c, v -> v.names(1), UnsupportedOperationException.class);
    }

    @Sentence(CHANGES_NOTHING)
    static void aCallWithoutAFreeClusterLeavesTheDisk(Checks c) {
        unchanged(c, v -> v.make(5, true), ArithmeticException.class);
        unchanged(c, v -> v.make(0x241, true), ArithmeticException.class);
        unchanged(c, v -> v.append(1, 1), ArithmeticException.class);
        unchanged(c, v -> v.append(0x23, 1), ArithmeticException.class);
    }

    @Sentence(CHANGES_NOTHING)
    static void aCallThatThrowsTakesNoneOfTheWritesLeft(Checks c) {
        ClusterVolume v = Volumes.full();
        v.arm(1);
        c.same("make", ArithmeticException.class, () -> v.make(5, false));
        c.same("append", ArithmeticException.class, () -> v.append(1, 1));
        c.same("remove", UnsupportedOperationException.class, () -> v.remove(2));
        c.same("put", IndexOutOfBoundsException.class, () -> v.put(1, 112, 1));
        c.same("the write left", 9, () -> v.rename(1, 9));
        c.same("no write left", IllegalStateException.class, () -> v.rename(9, 1));
    }

    @Sentence(CHANGES_NOTHING)
    static void aCallThatThrowsLosesNoPowerWithoutWritesLeft(Checks c) {
        ClusterVolume v = Volumes.full();
        v.arm(0);
        c.same("make", ArithmeticException.class, () -> v.make(5, false));
        c.same("make of a first entry", ArithmeticException.class, () -> v.make(0x241, false));
        c.same("append", ArithmeticException.class, () -> v.append(1, 1));
        c.same("append of a first number", ArithmeticException.class, () -> v.append(0x23, 1));
        c.same("make of a path there", UnsupportedOperationException.class, () -> v.make(1, true));
        c.same("remove", NoSuchElementException.class, () -> v.remove(5));
        c.same("rename", IllegalArgumentException.class, () -> v.rename(1, 0));
        c.same("put", IndexOutOfBoundsException.class, () -> v.put(1, -1, 1));
        c.same("shorten", IndexOutOfBoundsException.class, () -> v.shorten(1, -1));
        c.same("isDown", false, v::isDown);
        c.same("a write", IllegalStateException.class, () -> v.put(1, 0, 1));
        c.same("isDown then", true, v::isDown);
    }

    @Sentence("MOUNT: the volume is up, and not armed.")
    static void mountWhenDown(Checks c) {
        ClusterVolume v = Volumes.smallAndDown();
        c.same("mount", 0, v::mount);
        c.same("isDown", false, v::isDown);
        c.same("a call", 0, () -> v.length(1));
        c.same("a write", 1, () -> v.append(1, 7));
    }

    @Sentence("MOUNT: the volume is up, and not armed.")
    static void mountForgetsWhatWasArmedWhileDown(Checks c) {
        ClusterVolume v = Volumes.smallAndDown();
        v.arm(0);
        v.mount();
        c.same("a write", 1, () -> v.append(1, 7));
    }

    @Sentence("also when it is not down (it is not armed then, either;")
    static void mountWhenNotDown(Checks c) {
        ClusterVolume v = Volumes.after(Volumes.smallWithFile(5));
        v.arm(0);
        c.same("mount", 0, v::mount);
        c.same("isDown", false, v::isDown);
        c.same("a write", 6, () -> v.append(1, 7));
    }

    @Sentence("also when it is not down (it is not armed then, either;")
    static void mountWhenNotDownFindsNothingToSetRight(Checks c) {
        ClusterVolume v = Volumes.full();
        v.remove(0x23);
        String before = Volumes.diskOf(v);
        c.same("mount", 0, v::mount);
        c.same("the disk", before, () -> Volumes.diskOf(v));
    }

    @Sentence(LONGER_CHAIN)
    static void mountCutsAChainBehindAShortening(Checks c) {
        ClusterVolume v = Volumes.armedRun(1, Volumes.smallWithFile(17), u -> u.shorten(1, 8));
        c.same("the chain goes on", 6, () -> v.table(5));
        c.same("mount", 3, v::mount);
        c.same("the chain ends", -1, () -> v.table(5));
        c.same("its first cluster stays", 5, () -> v.table(4));
        c.same("free", 26, v::free);
    }

    @Sentence(LONGER_CHAIN)
    static void mountCutsAChainBehindAnAppend(Checks c) {
        ClusterVolume v = Volumes.armedRun(3, Volumes.smallWithFile(4), u -> u.append(1, 7));
        c.same("the chain goes on", 5, () -> v.table(4));
        c.same("mount", 1, v::mount);
        c.same("the chain ends", -1, () -> v.table(4));
        c.same("the next number takes that cluster again", 5, () -> v.append(1, 8));
        c.same("which is the second one", 5, () -> v.table(4));
    }

    @Sentence(LONGER_CHAIN)
    static void mountCutsAFileFourNamesDeep(Checks c) {
        ClusterVolume v = Volumes.armedRun(1, u -> {
            makeFourDeep(u);
            Volumes.lengthen(u, 0x1111, 9);
        }, u -> u.shorten(0x1111, 1));
        c.same("mount", 2, v::mount);
        c.same("its table cell", -1, () -> v.table(4));
        c.same("its length", 1, () -> v.length(0x1111));
        c.same("its number", 100, () -> v.get(0x1111, 0));
    }

    @Sentence("(a file of length 0 has none: its first cluster is NONE then always)")
    static void mountFreesAllOfAFileShortenedToZero(Checks c) {
        ClusterVolume v = Volumes.armedRun(1, Volumes.smallWithFile(9), u -> u.shorten(1, 0));
        c.same("the entry", "1 1 -1 0", () -> Volumes.clusterOf(v, 0));
        c.same("mount", 3, v::mount);
        c.same("the entry still", "1 1 -1 0", () -> Volumes.clusterOf(v, 0));
        c.same("free", 28, v::free);
    }

    @Sentence("(a file of length 0 has none: its first cluster is NONE then always)")
    static void mountFreesTheFirstClusterOfAFileNotYetLengthened(Checks c) {
        ClusterVolume v = Volumes.armedRun(2, Volumes::makeSmall, u -> u.append(1, 7));
        c.same("the entry", "1 1 -1 0", () -> Volumes.clusterOf(v, 0));
        c.same("the cluster", -1, () -> v.table(4));
        c.same("mount", 1, v::mount);
        c.same("the cluster then", -2, () -> v.table(4));
    }

    @Sentence(NOT_REACHED)
    static void mountLeavesWhatIsReachedFourNamesDeep(Checks c) {
        ClusterVolume v = Volumes.after(u -> {
            makeFourDeep(u);
            Volumes.lengthen(u, 0x1111, 5);
        });
        String before = Volumes.diskOf(v);
        c.same("mount", 0, v::mount);
        c.same("the disk", before, () -> Volumes.diskOf(v));
    }

    @Sentence(NOT_REACHED)
    static void mountLeavesTheClustersOfEmptyEntries(Checks c) {
        ClusterVolume v = Volumes.small();
        v.remove(0x23);
        v.remove(0x24);
        v.remove(1);
        c.same("mount", 0, v::mount);
        c.same("the root's chain", 1, () -> v.table(0));
        c.same("the directory's chain", 3, () -> v.table(2));
        c.same("its end", -1, () -> v.table(3));
    }

    @Sentence(NOT_REACHED)
    static void mountTakesTheNumbersOfAFileForNoEntries(Checks c) {
        ClusterVolume v = Volumes.armedRun(1, u -> {
            Volumes.makeSmall(u);
            Volumes.lengthen(u, 0x23, 1);
            for (int number : new int[] {5, 2, 4, 0}) {
                u.append(1, number);
            }
        }, u -> u.remove(0x23));
        c.same("what the numbers would name is freed", 1, v::mount);
        c.same("the file stays", -1, () -> v.table(5));
    }

    @Sentence(NOT_REACHED)
    static void mountFreesAnEntryThatIsNotLinked(Checks c) {
        ClusterVolume v = Volumes.armedRun(2, Volumes::makeSmall, u -> u.make(0x241, true));
        c.same("the entry", "1 2 -1 0", () -> Volumes.clusterOf(v, 4));
        c.same("mount", 1, v::mount);
        c.same("its table cell", -2, () -> v.table(4));
        c.same("names", 0, () -> v.names(0x24));
    }

    @Sentence(NOT_REACHED)
    static void mountForgetsTheClustersThatAnEarlierOneReached(Checks c) {
        ClusterVolume v = Volumes.armedRun(1, u -> {
            Volumes.smallWithFile(9).run(u);
            u.mount();
        }, u -> u.remove(1));
        c.same("mount", 3, v::mount);
        c.same("free", 28, v::free);
    }

    @Sentence(NOT_REACHED)
    static void mountForgetsTheEntriesThatAnEarlierOneReached(Checks c) {
        ClusterVolume v = Volumes.armedRun(2, u -> {
            Volumes.makeSmall(u);
            u.make(0x241, false);
            u.mount();
            u.remove(0x241);
            u.remove(0x24);
            for (int number : new int[] {5, 1, 5, 1}) {
                u.append(1, number);
            }
        }, u -> u.append(0x23, 7));
        c.same("the old entry's cluster has numbers now", "5 1 5 1",
                () -> Volumes.clusterOf(v, 4));
        c.same("the cluster that they would name", -1, () -> v.table(5));
        c.same("mount", 1, v::mount);
        c.same("that cluster then", -2, () -> v.table(5));
    }

    @Sentence("It answers how many table cells became FREE.")
    static void mountCountsNeitherEndsNorWhatIsFree(Checks c) {
        ClusterVolume v = Volumes.armedRun(2, Volumes.smallWithFile(13), u -> u.remove(1));
        c.same("one is free already", 3, v::mount);
        c.same("once more", 0, v::mount);
        ClusterVolume cut = Volumes.armedRun(1, Volumes.smallWithFile(8), u -> u.shorten(1, 4));
        c.same("an END, and one freed", 1, cut::mount);
    }

    @Sentence("cells of clusters that become FREE stay as they are")
    static void mountLeavesAllCells(Checks c) {
        ClusterVolume v = Volumes.armedRun(1, Volumes.smallWithFile(9), u -> u.remove(1));
        c.same("mount", 3, v::mount);
        c.same("first", "100 101 102 103", () -> Volumes.clusterOf(v, 4));
        c.same("second", "104 105 106 107", () -> Volumes.clusterOf(v, 5));
        c.same("third", "108 0 0 0", () -> Volumes.clusterOf(v, 6));
    }

    /** Directories 1, 11 and 111 in the clusters 0 to 2, a file 1111 in cluster 3. */
    private static void makeFourDeep(ClusterVolume v) {
        v.make(0x1, true);
        v.make(0x11, true);
        v.make(0x111, true);
        v.make(0x1111, false);
    }

    /**
     * A loss in each of a call's writes: mount() answers what is due, and what is there then is
     * what was before the call if the loss was in one of the first oldFor writes, otherwise what is
     * after the call; so are the table cells.
     */
    private static void losses(Checks c, Volumes.Step before, Volumes.Step call, int oldFor,
            int... mounts) {
        ClusterVolume unmade = Volumes.after(before);
        ClusterVolume made = Volumes.after(before);
        call.run(made);
        for (int writes = 0; writes < mounts.length; writes++) {
            ClusterVolume v = Volumes.after(before);
            v.arm(writes);
            c.same("the call with " + writes + " writes", IllegalStateException.class, () -> {
                call.run(v);
                return "an answer";
            });
            c.same("isDown after " + writes, true, v::isDown);
            String cells = Volumes.cellsOf(v);
            c.same("mount after " + writes, mounts[writes], v::mount);
            c.same("the cells after " + writes, cells, () -> Volumes.cellsOf(v));
            sameTree(c, "after " + writes, writes < oldFor ? unmade : made, v);
        }
        enoughWrites(c, before, call, mounts.length);
    }

    private static void sameTree(Checks c, String when, ClusterVolume due, ClusterVolume v) {
        c.same("the tree " + when, Volumes.treeOf(due, 0), () -> Volumes.treeOf(v, 0));
        c.same("the table " + when, Volumes.tableOf(due), () -> Volumes.tableOf(v));
    }

    private static void enoughWrites(Checks c, Volumes.Step before, Volumes.Step call, int writes) {
        ClusterVolume v = Volumes.armedRun(writes, before, call);
        c.same("isDown after all " + writes, false, v::isDown);
    }

    private static void unchanged(Checks c, Volumes.Step call, Class<?> due) {
        ClusterVolume v = Volumes.full();
        c.same("the call", due, () -> {
            call.run(v);
            return "an answer";
        });
        c.same("isDown", false, v::isDown);
        c.same("the disk", Volumes.diskOf(Volumes.full()), () -> Volumes.diskOf(v));
    }
}
