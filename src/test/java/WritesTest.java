import java.util.ArrayList;
import java.util.Arrays;
import java.util.List;

/**
 * The writes of each call, one by one: a call is made on like volumes that are armed with 0, 1, 2
 * and so on writes, and what one disk has more than the one before is the write.
 */
public final class WritesTest {
    private static final String MAKE_IN_EMPTY =
            "if it has an empty entry, the first one in its chain becomes it (1 write)";
    private static final String REMOVE =
            "the entry becomes empty; then the table cells of its chain become FREE, one after the"
            + " other, from the first on.";
    private static final String APPEND_WITH_ROOM =
            "if its last cluster has room, that cluster gets it behind the others there; then the"
            + " entry the length";
    private static final String SHORTEN =
            "the entry gets the length (and NONE as its first cluster for 0)";
    private static final String EACH_WRITE =
            "Calls make their writes in the order named, each even if it changes nothing.";
    private static final String NOTHING = "nothing";
    private static final int MANY = 64;

    public static void main(String[] args) {
        SentenceTests.run(WritesTest.class);
    }

    @Sentence(MAKE_IN_EMPTY)
    static void makeInTheRootsFirstEntry(Checks c) {
        writes(c, v -> { }, v -> v.make(1, false), "cluster 0: 1 1 -1 0");
    }

    @Sentence(MAKE_IN_EMPTY)
    static void makeInTheOnlyEmptyEntryWhichIsTheLast(Checks c) {
        writes(c, v -> {
            Volumes.makeSmall(v);
            v.remove(0x24);
        }, v -> v.make(0x25, true), "cluster 3: 5 2 -1 0");
    }

    @Sentence(MAKE_IN_EMPTY)
    static void makeInTheFirstEmptyEntryWhichIsNotTheLeast(Checks c) {
        writes(c, v -> {
            Volumes.makeDirectoryGoingDown(v);
            v.remove(0x22);
            v.remove(0x21);
        }, v -> v.make(0x25, true), "cluster 3: 5 2 -1 0");
    }

    @Sentence("Otherwise a cluster is taken: it becomes the entry; its table cell END; and the"
            + " table cell of the last cluster of the directory that cluster")
    static void makeBehindTheRootsOnlyEntry(Checks c) {
        writes(c, v -> v.make(1, false), v -> v.make(2, true),
                "cluster 1: 2 2 -1 0", "table 1: -1", "table 0: 1");
    }

    @Sentence("Otherwise a cluster is taken: it becomes the entry; its table cell END; and the"
            + " table cell of the last cluster of the directory that cluster")
    static void makeBehindTheLastOfAChainGoingDown(Checks c) {
        writes(c, Volumes::makeDirectoryGoingDown, v -> v.make(0x25, false),
                "cluster 4: 5 1 -1 0", "table 4: -1", "table 2: 4");
    }

    @Sentence("or, if the directory has none, the directory's own entry gets it as its first (3"
            + " writes)")
    static void makeInADirectoryWithoutClusters(Checks c) {
        writes(c, Volumes::makeSmall, v -> v.make(0x241, false),
                "cluster 4: 1 1 -1 0", "table 4: -1", "cluster 3: 4 2 4 0");
    }

    @Sentence(REMOVE)
    static void removeAFileOfLengthZero(Checks c) {
        writes(c, Volumes::makeSmall, v -> v.remove(1), "cluster 0: 0 0 0 0");
    }

    @Sentence(REMOVE)
    static void removeAFileOfThreeClusters(Checks c) {
        writes(c, Volumes.smallWithFile(9), v -> v.remove(1),
                "cluster 0: 0 0 0 0", "table 4: -2", "table 5: -2", "table 6: -2");
    }

    @Sentence(REMOVE)
    static void removeAFileWhoseChainGoesDown(Checks c) {
        writes(c, Volumes::makeFileGoingDown, v -> v.remove(1),
                "cluster 0: 0 0 0 0", "table 5: -2", "table 4: -2");
    }

    @Sentence(REMOVE)
    static void removeADirectoryWithoutClusters(Checks c) {
        writes(c, Volumes::makeSmall, v -> v.remove(0x24), "cluster 3: 0 0 0 0");
    }

    @Sentence(REMOVE)
    static void removeADirectoryOfEmptyEntries(Checks c) {
        writes(c, v -> {
            Volumes.makeDirectoryGoingDown(v);
            v.remove(0x21);
            v.remove(0x22);
        }, v -> v.remove(2), "cluster 1: 0 0 0 0", "table 3: -2", "table 2: -2");
    }

    @Sentence("the entry gets another name")
    static void renameAFile(Checks c) {
        writes(c, Volumes.smallWithFile(2), v -> v.rename(1, 9), "cluster 0: 9 1 4 2");
    }

    @Sentence("the entry gets another name")
    static void renameADirectory(Checks c) {
        writes(c, Volumes::makeSmall, v -> v.rename(2, 15), "cluster 1: 15 2 2 0");
    }

    @Sentence(APPEND_WITH_ROOM)
    static void appendToALastClusterOfOneNumber(Checks c) {
        writes(c, Volumes.smallWithFile(5), v -> v.append(1, 9),
                "cluster 5: 104 9 0 0", "cluster 0: 1 1 4 6");
    }

    @Sentence(APPEND_WITH_ROOM)
    static void appendToALastClusterWithRoomForOne(Checks c) {
        writes(c, Volumes.smallWithFile(3), v -> v.append(1, 9),
                "cluster 4: 100 101 102 9", "cluster 0: 1 1 4 4");
    }

    @Sentence(APPEND_WITH_ROOM)
    static void appendBehindAShorteningLeavesTheOtherCells(Checks c) {
        writes(c, v -> {
            Volumes.smallWithFile(4).run(v);
            v.shorten(1, 1);
        }, v -> v.append(1, 9), "cluster 4: 100 9 102 103", "cluster 0: 1 1 4 2");
    }

    @Sentence("Otherwise a cluster is taken: it becomes the number and three 0; its table cell"
            + " END; if the length is not 0, the table cell of the last cluster that cluster; then"
            + " the entry gets the length (and the first cluster).")
    static void appendToALastClusterWithoutRoom(Checks c) {
        writes(c, Volumes.smallWithFile(8), v -> v.append(1, 9),
                "cluster 6: 9 0 0 0", "table 6: -1", "table 5: 6", "cluster 0: 1 1 4 9");
    }

    @Sentence("Otherwise a cluster is taken: it becomes the number and three 0; its table cell"
            + " END; if the length is not 0, the table cell of the last cluster that cluster; then"
            + " the entry gets the length (and the first cluster).")
    static void appendToAFileOfLengthZero(Checks c) {
        writes(c, Volumes::makeSmall, v -> v.append(1, 9),
                "cluster 4: 9 0 0 0", "table 4: -1", "cluster 0: 1 1 4 1");
    }

    @Sentence("it becomes the number and three 0")
    static void appendInAClusterThatWasUsedBefore(Checks c) {
        writes(c, v -> {
            Volumes.smallWithFile(4).run(v);
            v.remove(1);
        }, v -> v.append(0x23, 9), "cluster 4: 9 0 0 0", "table 4: -1", "cluster 2: 3 1 4 1");
    }

    @Sentence("the cluster gets it")
    static void putInTheFirstAndInTheLastCluster(Checks c) {
        writes(c, Volumes.smallWithFile(6), v -> v.put(1, 0, 9), "cluster 4: 9 101 102 103");
        writes(c, Volumes.smallWithFile(6), v -> v.put(1, 5, 9), "cluster 5: 104 9 0 0");
    }

    @Sentence(SHORTEN)
    static void shortenWithinTheLastCluster(Checks c) {
        writes(c, Volumes.smallWithFile(8), v -> v.shorten(1, 5), "cluster 0: 1 1 4 5");
    }

    @Sentence(SHORTEN)
    static void shortenToZero(Checks c) {
        writes(c, Volumes.smallWithFile(9), v -> v.shorten(1, 0),
                "cluster 0: 1 1 -1 0", "table 4: -2", "table 5: -2", "table 6: -2");
    }

    @Sentence(SHORTEN)
    static void shortenFromOneToZero(Checks c) {
        writes(c, Volumes.smallWithFile(1), v -> v.shorten(1, 0),
                "cluster 0: 1 1 -1 0", "table 4: -2");
    }

    @Sentence("if a cluster of the chain is not needed any more and the length is not 0, the"
            + " table cell of the last one that is needed becomes END")
    static void shortenToTheEndOfACluster(Checks c) {
        writes(c, Volumes.smallWithFile(9), v -> v.shorten(1, 8),
                "cluster 0: 1 1 4 8", "table 5: -1", "table 6: -2");
    }

    @Sentence("if a cluster of the chain is not needed any more and the length is not 0, the"
            + " table cell of the last one that is needed becomes END")
    static void shortenToTheFirstCellOfACluster(Checks c) {
        writes(c, Volumes.smallWithFile(9), v -> v.shorten(1, 5),
                "cluster 0: 1 1 4 5", "table 5: -1", "table 6: -2");
    }

    @Sentence("then the table cells of those that are not needed become FREE, in the order of the"
            + " chain")
    static void shortenToOneFrees(Checks c) {
        writes(c, Volumes.smallWithFile(13), v -> v.shorten(1, 1),
                "cluster 0: 1 1 4 1", "table 4: -1", "table 5: -2", "table 6: -2", "table 7: -2");
    }

    @Sentence("then the table cells of those that are not needed become FREE, in the order of the"
            + " chain")
    static void shortenAFileWhoseChainGoesDown(Checks c) {
        writes(c, Volumes::makeFileGoingDown, v -> v.shorten(1, 0),
                "cluster 0: 1 1 -1 0", "table 5: -2", "table 4: -2");
    }

    @Sentence("To its own length: nothing is written.")
    static void shortenToItsOwnLength(Checks c) {
        writes(c, Volumes.smallWithFile(9), v -> v.shorten(1, 9));
        writes(c, Volumes.smallWithFile(8), v -> v.shorten(1, 8));
    }

    @Sentence("To its own length: nothing is written.")
    static void shortenAFileOfLengthZeroToZero(Checks c) {
        writes(c, Volumes::makeSmall, v -> v.shorten(1, 0));
    }

    @Sentence(EACH_WRITE)
    static void appendOfANumberThatIsInTheCellAlready(Checks c) {
        writes(c, v -> {
            Volumes.smallWithFile(2).run(v);
            v.shorten(1, 1);
        }, v -> v.append(1, 101), NOTHING, "cluster 0: 1 1 4 2");
    }

    @Sentence(EACH_WRITE)
    static void appendWhereTheTakenClusterHasItAlready(Checks c) {
        writes(c, v -> {
            Volumes.smallWithFile(1).run(v);
            v.shorten(1, 0);
        }, v -> v.append(1, 100), NOTHING, "table 4: -1", "cluster 0: 1 1 4 1");
    }

    @Sentence(EACH_WRITE)
    static void makeWhereTheTakenClusterHasItAlready(Checks c) {
        writes(c, v -> {
            Volumes.makeSmall(v);
            for (int number : new int[] {5, 2, -1, 0}) {
                v.append(1, number);
            }
            v.shorten(1, 0);
        }, v -> v.make(5, true), NOTHING, "table 4: -1", "table 1: 4");
    }

    @Sentence("(a write also if it is that)")
    static void putOfTheNumberThatIsThere(Checks c) {
        writes(c, Volumes.smallWithFile(6), v -> v.put(1, 5, 105), NOTHING);
    }

    @Sentence("A WRITE changes one cell of the table, or the four cells of one cluster.")
    static void callsThatOnlyLookWriteNothing(Checks c) {
        Volumes.Step before = Volumes.smallWithFile(1);
        writes(c, before, v -> v.get(1, 0));
        writes(c, before, v -> v.length(1));
        writes(c, before, v -> v.names(2));
        writes(c, before, ClusterVolume::free);
        writes(c, before, ClusterVolume::isDown);
        writes(c, before, v -> v.cell(0, 0));
        writes(c, before, v -> v.table(0));
        writes(c, before, ClusterVolume::mount);
    }

    private static void writes(Checks c, Volumes.Step before, Volumes.Step call, String... due) {
        c.same("the writes", Arrays.asList(due), () -> writesOf(before, call));
    }

    private static List<String> writesOf(Volumes.Step before, Volumes.Step call) {
        List<String> writes = new ArrayList<>();
        ClusterVolume last = Volumes.armedRun(0, before, call);
        for (int n = 1; last.isDown() && n < MANY; n++) {
            ClusterVolume next = Volumes.armedRun(n, before, call);
            writes.add(difference(last, next));
            last = next;
        }
        return writes;
    }

    private static String difference(ClusterVolume before, ClusterVolume after) {
        List<String> found = new ArrayList<>();
        for (int cluster = 0; cluster < Volumes.CLUSTERS; cluster++) {
            String cells = Volumes.clusterOf(after, cluster);
            if (!cells.equals(Volumes.clusterOf(before, cluster))) {
                found.add("cluster " + cluster + ": " + cells);
            }
            if (after.table(cluster) != before.table(cluster)) {
                found.add("table " + cluster + ": " + after.table(cluster));
            }
        }
        return found.isEmpty() ? NOTHING : String.join(", ", found);
    }
}
