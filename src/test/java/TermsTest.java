import java.util.NoSuchElementException;

/** What the document says of the disk, of files, directories and paths. */
public final class TermsTest {
    public static void main(String[] args) {
        SentenceTests.run(TermsTest.class);
    }

    @Sentence("An object is used for at most 512 calls after it has been made")
    static void theLastOfAllCallsIsAsGoodAsTheFirst(Checks c) {
        ClusterVolume v = new ClusterVolume();
        v.make(1, false);
        v.append(1, 0);
        for (int call = 3; call < 512; call++) {
            int number = call;
            c.same("put", call == 3 ? 0 : call - 1, () -> v.put(1, 0, number));
        }
        c.same("the 512th call", 511, () -> v.get(1, 0));
    }

    @Sentence("THE DISK has 32 CLUSTERS 0 .. 31 of four CELLS (ints)")
    static void theLastClusterIsTakenWithItsLastCell(Checks c) {
        ClusterVolume v = new ClusterVolume();
        v.make(1, false);
        Volumes.lengthen(v, 1, 31 * 4);
        c.same("free", 0, v::free);
        c.same("length", 124, () -> v.length(1));
        c.same("the last cell", 223, () -> v.get(1, 123));
        c.same("it is in cluster 31", 223, () -> v.cell(31, 3));
        c.same("which is the last one of the chain", ClusterVolume.END, () -> v.table(31));
        c.same("there is no cluster more", ArithmeticException.class, () -> v.append(1, 1));
    }

    @Sentence("THE DISK has 32 CLUSTERS 0 .. 31 of four CELLS (ints)")
    static void aCellHoldsAnyInt(Checks c) {
        ClusterVolume v = new ClusterVolume();
        v.make(1, false);
        int[] numbers = {Integer.MIN_VALUE, Integer.MAX_VALUE, -2, -1, 0, 31, 32};
        for (int number : numbers) {
            v.append(1, number);
        }
        for (int i = 0; i < numbers.length; i++) {
            int at = i;
            c.same("get " + i, numbers[i], () -> v.get(1, at));
            c.same("cell " + i, numbers[i], () -> v.cell(1 + at / 4, at % 4));
        }
        c.same("mount takes no number for more than that", 0, v::mount);
    }

    @Sentence("a TABLE with one cell for each cluster: FREE (-2), END (-1), or the number of the"
            + " NEXT cluster")
    static void theTableHasFreeEndAndNext(Checks c) {
        ClusterVolume v = Volumes.after(Volumes.smallWithFile(5));
        c.same("the first of two", 5, () -> v.table(4));
        c.same("the last of two", -1, () -> v.table(5));
        c.same("one that is not used", -2, () -> v.table(6));
        c.same("END", -1, () -> ClusterVolume.END);
        c.same("FREE", -2, () -> ClusterVolume.FREE);
    }

    @Sentence("The CHAIN from a cluster is that cluster, its next one, and so on, until one with"
            + " END.")
    static void aChainMayGoDown(Checks c) {
        ClusterVolume v = Volumes.after(Volumes::makeFileGoingDown);
        c.same("first", 5, () -> v.cell(0, 2));
        c.same("next", 4, () -> v.table(5));
        c.same("last", -1, () -> v.table(4));
        c.same("a cell of the first", 103, () -> v.get(1, 3));
        c.same("a cell of the last", 104, () -> v.get(1, 4));
        c.same("append goes to the last", 6, () -> v.append(1, 9));
        c.same("which has it", 9, () -> v.cell(4, 1));
    }

    @Sentence("At first all cells are 0, the table has END for cluster 0 and FREE for all others.")
    static void theDiskAtFirst(Checks c) {
        ClusterVolume v = new ClusterVolume();
        c.same("cells", "0 0 0 0\n".repeat(32), () -> Volumes.cellsOf(v));
        c.same("table", "-1 " + "-2 ".repeat(31), () -> Volumes.tableOf(v));
    }

    @Sentence("A FILE has a LENGTH and a FIRST cluster (NONE, -1, when the length is 0)")
    static void aFileOfLengthZeroHasNoFirstCluster(Checks c) {
        ClusterVolume v = Volumes.small();
        c.same("NONE", -1, () -> ClusterVolume.NONE);
        c.same("a new file", "1 1 -1 0", () -> Volumes.clusterOf(v, 0));
        v.append(1, 7);
        c.same("length 1", "1 1 4 1", () -> Volumes.clusterOf(v, 0));
        v.shorten(1, 0);
        c.same("length 0 again", "1 1 -1 0", () -> Volumes.clusterOf(v, 0));
    }

    @Sentence("its cells 0 .. length - 1 are those of its chain, four a cluster, in order")
    static void fourCellsAreOneClusterAndFiveAreTwo(Checks c) {
        ClusterVolume v = Volumes.small();
        Volumes.lengthen(v, 1, 4);
        c.same("clusters of four cells", 27, v::free);
        c.same("the first cluster", "100 101 102 103", () -> Volumes.clusterOf(v, 4));
        Volumes.lengthen(v, 1, 5);
        c.same("clusters of five cells", 26, v::free);
        c.same("the second cluster", "104 0 0 0", () -> Volumes.clusterOf(v, 5));
        c.same("the last of the first", 103, () -> v.get(1, 3));
        c.same("the first of the second", 104, () -> v.get(1, 4));
    }

    @Sentence("A DIRECTORY has a first cluster (NONE when it has no clusters)")
    static void aDirectoryWithoutClusters(Checks c) {
        ClusterVolume v = Volumes.small();
        c.same("its entry", "4 2 -1 0", () -> Volumes.clusterOf(v, 3));
        c.same("names", 0, () -> v.names(0x24));
        c.same("length", -1, () -> v.length(0x24));
        c.same("a path through it", NoSuchElementException.class, () -> v.length(0x241));
        c.same("mount", 0, v::mount);
        c.same("make in it", 4, () -> v.make(0x241, false));
        c.same("its entry then", "4 2 4 0", () -> Volumes.clusterOf(v, 3));
    }

    @Sentence("A DIRECTORY has a first cluster (NONE when it has no clusters)")
    static void aDirectoryOfEmptyEntriesKeepsItsClusters(Checks c) {
        ClusterVolume v = Volumes.small();
        v.remove(0x23);
        v.remove(0x24);
        c.same("its entry", "2 2 2 0", () -> Volumes.clusterOf(v, 1));
        c.same("its first cluster", 3, () -> v.table(2));
        c.same("its last cluster", -1, () -> v.table(3));
        c.same("free", 28, v::free);
    }

    @Sentence("each cluster of its chain is an ENTRY: its NAME, 1 .. 15")
    static void theLeastAndTheGreatestName(Checks c) {
        ClusterVolume v = new ClusterVolume();
        c.same("make 1", 0, () -> v.make(1, false));
        c.same("make 15", 1, () -> v.make(15, false));
        c.same("name 1", 1, () -> v.cell(0, 0));
        c.same("name 15", 15, () -> v.cell(1, 0));
    }

    @Sentence("each cluster of its chain is an ENTRY: its NAME, 1 .. 15")
    static void aDirectoryOfAllNamesTakesNoMore(Checks c) {
        ClusterVolume v = new ClusterVolume();
        for (int name = 1; name <= 15; name++) {
            int path = name;
            c.same("make", name - 1, () -> v.make(path, true));
        }
        for (int name = 1; name <= 15; name++) {
            int path = name;
            c.same("make once more", UnsupportedOperationException.class,
                    () -> v.make(path, true));
            c.same("rename to 15", UnsupportedOperationException.class, () -> v.rename(path, 15));
        }
    }

    @Sentence("or 0 (then it is EMPTY, and all its cells are 0)")
    static void anEntryThatIsEmptyHasNothingInItsCells(Checks c) {
        ClusterVolume v = Volumes.small();
        Volumes.lengthen(v, 0x23, 2);
        v.make(0x241, false);
        v.remove(0x241);
        v.remove(0x23);
        v.remove(0x24);
        c.same("of a file", "0 0 0 0", () -> Volumes.clusterOf(v, 2));
        c.same("of a directory", "0 0 0 0", () -> Volumes.clusterOf(v, 3));
        v.remove(2);
        c.same("of a directory with clusters", "0 0 0 0", () -> Volumes.clusterOf(v, 1));
    }

    @Sentence("its KIND (1 a file, 2 a directory), its first cluster, and its length (0 for a"
            + " directory)")
    static void theCellsOfEntries(Checks c) {
        ClusterVolume v = Volumes.after(Volumes.smallWithFile(6));
        c.same("a file", "1 1 4 6", () -> Volumes.clusterOf(v, 0));
        c.same("a directory with two entries", "2 2 2 0", () -> Volumes.clusterOf(v, 1));
        c.same("a file of length 0", "3 1 -1 0", () -> Volumes.clusterOf(v, 2));
        c.same("a directory without clusters", "4 2 -1 0", () -> Volumes.clusterOf(v, 3));
    }

    @Sentence("The ROOT is the directory whose first cluster is 0.")
    static void theRootBeginsAtClusterZeroAlsoWhenThatEntryIsEmpty(Checks c) {
        ClusterVolume v = Volumes.small();
        v.remove(1);
        c.same("the entry behind it is there", 1 << 2, () -> v.names(0));
        c.same("mount leaves it there", 0, v::mount);
        c.same("the next entry is made there", 0, () -> v.make(5, true));
        c.same("both are there", 1 << 2 | 1 << 5, () -> v.names(0));
    }

    @Sentence("A PATH is a number of at most four digits to the base 16")
    static void fourDigitsAreAPath(Checks c) {
        ClusterVolume v = new ClusterVolume();
        c.same("one", 0, () -> v.make(0xF, true));
        c.same("two", 1, () -> v.make(0xFF, true));
        c.same("three", 2, () -> v.make(0xFFF, true));
        c.same("four", 3, () -> v.make(0xFFFF, true));
        c.same("length", -1, () -> v.length(0xFFFF));
        c.same("names", 0, () -> v.names(0xFFFF));
        c.same("rename", 0xFFF1, () -> v.rename(0xFFFF, 1));
        c.same("remove", 0, () -> v.remove(0xFFF1));
        c.same("a file", 3, () -> v.make(0xFFFE, false));
        c.same("append", 1, () -> v.append(0xFFFE, 8));
        c.same("get", 8, () -> v.get(0xFFFE, 0));
        c.same("put", 8, () -> v.put(0xFFFE, 0, 9));
        c.same("shorten", 1, () -> v.shorten(0xFFFE, 0));
    }

    @Sentence("the highest one first, each a name 1 .. 15")
    static void theHighestDigitIsTheFirstName(Checks c) {
        ClusterVolume v = Volumes.small();
        c.same("2 then 3", 0, () -> v.length(0x23));
        c.same("3 then 2", NoSuchElementException.class, () -> v.length(0x32));
    }

    @Sentence("0 is the path of the root")
    static void zeroIsTheRoot(Checks c) {
        ClusterVolume v = Volumes.small();
        c.same("names", 1 << 1 | 1 << 2, () -> v.names(0));
        c.same("length", -3, () -> v.length(0));
    }

    @Sentence("Digits lead from the root by entries of directories to the entry of a file or a"
            + " directory")
    static void noDigitLeadsToAnEmptyEntry(Checks c) {
        ClusterVolume v = Volumes.small();
        v.remove(0x23);
        for (PathCall call : PathCall.values()) {
            Object due = call == PathCall.MAKE ? (Object) 2 : NoSuchElementException.class;
            c.same(call + " of a name removed", due, () -> call.on(v, 0x23));
            Checks.answerOf(() -> v.remove(0x23));
            c.same(call + " of name 0", IllegalArgumentException.class, () -> call.on(v, 0x20));
        }
    }

    @Sentence("of the names in a directory none is there twice")
    static void aNameIsThereOnceInADirectoryButAlsoInOthers(Checks c) {
        ClusterVolume v = Volumes.small();
        c.same("a file of a name there", UnsupportedOperationException.class,
                () -> v.make(0x24, false));
        c.same("a directory of a name there", UnsupportedOperationException.class,
                () -> v.make(0x23, true));
        c.same("a rename to a name there", UnsupportedOperationException.class,
                () -> v.rename(0x23, 4));
        c.same("the name in the root", 4, () -> v.make(3, false));
        c.same("the name in a directory of that name", 5, () -> v.make(0x244, false));
        c.same("a rename to a name there in the root", 0x21, () -> v.rename(0x23, 1));
    }

    @Sentence("When a cluster is TAKEN, it is the free one with the least number.")
    static void makeTakesTheLeastFreeCluster(Checks c) {
        ClusterVolume v = Volumes.after(Volumes.smallWithFile(9));
        v.make(5, false);
        v.shorten(1, 0);
        c.same("the least", 4, () -> v.make(6, false));
        c.same("the second least", 5, () -> v.make(0x241, false));
        c.same("the third least", 6, () -> v.make(0x242, true));
        c.same("the one behind those taken", 8, () -> v.make(7, true));
    }

    @Sentence("When a cluster is TAKEN, it is the free one with the least number.")
    static void appendTakesTheLeastFreeCluster(Checks c) {
        ClusterVolume v = Volumes.after(Volumes.smallWithFile(5));
        v.append(0x23, 7);
        v.shorten(1, 0);
        Volumes.lengthen(v, 0x23, 13);
        c.same("the first", 6, () -> v.cell(2, 2));
        c.same("then the least", 4, () -> v.table(6));
        c.same("then the second least", 5, () -> v.table(4));
        c.same("then the one behind those taken", 7, () -> v.table(5));
    }
}
