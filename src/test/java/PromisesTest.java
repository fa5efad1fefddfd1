import java.util.NoSuchElementException;

/** Each sentence of the promises by itself: ordinary inputs, the edges, and wrong inputs. */
public final class PromisesTest {
    private static final String NEW_OBJECT = "A volume without entries, up, not armed.";
    private static final String NONE_FREE =
            "ArithmeticException: a cluster has to be taken, and none is free.";
    private static final String REMOVE =
            "Removes a file, or a directory all entries of which are empty: how many clusters"
            + " became FREE.";
    private static final String NO_CELL = "IndexOutOfBoundsException: there is none.";
    private static final String SHORTEN =
            "Shortens a file (to its own length, too): how many clusters became FREE.";
    private static final String LENGTH =
            "The length of a file; for a directory (the root, too) -1 less the number of its"
            + " entries that are not empty.";

    public static void main(String[] args) {
        SentenceTests.run(PromisesTest.class);
    }

    @Sentence(NEW_OBJECT)
    static void p01WithoutEntries(Checks c) {
        ClusterVolume v = new ClusterVolume();
        c.same("names", 0, () -> v.names(0));
        c.same("length", -1, () -> v.length(0));
        c.same("a path", NoSuchElementException.class, () -> v.length(1));
        c.same("mount", 0, v::mount);
    }

    @Sentence(NEW_OBJECT)
    static void p01UpAndNotArmed(Checks c) {
        ClusterVolume v = new ClusterVolume();
        c.same("isDown", false, v::isDown);
        v.make(1, false);
        Volumes.lengthen(v, 1, 31 * 4);
        c.same("isDown after hundreds of writes", false, v::isDown);
    }

    @Sentence(NEW_OBJECT)
    static void p01EachObjectIsItsOwn(Checks c) {
        ClusterVolume v = Volumes.smallAndDown();
        ClusterVolume other = new ClusterVolume();
        c.same("isDown", false, other::isDown);
        c.same("names", 0, () -> other.names(0));
        c.same("free", 31, other::free);
        other.make(3, false);
        c.same("the first one", 1, () -> v.cell(0, 0));
    }

    @Sentence("Makes an entry by a path, a directory or a file: the number of its cluster.")
    static void p02TheNumberOfItsCluster(Checks c) {
        ClusterVolume v = new ClusterVolume();
        c.same("the root's empty entry", 0, () -> v.make(15, true));
        c.same("behind it", 1, () -> v.make(3, false));
        c.same("the first of a directory", 2, () -> v.make(0xF1, true));
        c.same("the second of a directory", 3, () -> v.make(0xF2, false));
        c.same("a file", 1, () -> v.cell(1, 1));
        c.same("a directory", 2, () -> v.cell(2, 1));
        v.remove(0xF1);
        c.same("an empty entry", 2, () -> v.make(0xF3, false));
    }

    @Sentence("NoSuchElementException: its directory is not there, or no directory")
    static void p02ItsDirectoryIsNotThere(Checks c) {
        ClusterVolume v = Volumes.small();
        c.same("in the root", NoSuchElementException.class, () -> v.make(0x91, false));
        c.same("in a directory", NoSuchElementException.class, () -> v.make(0x291, true));
        c.same("two names too deep", NoSuchElementException.class, () -> v.make(0x2411, true));
    }

    @Sentence("NoSuchElementException: its directory is not there, or no directory")
    static void p02ItsDirectoryIsAFile(Checks c) {
        ClusterVolume v = Volumes.after(Volumes.smallWithFile(1));
        c.same("in the root", NoSuchElementException.class, () -> v.make(0x12, false));
        c.same("of length 0", NoSuchElementException.class, () -> v.make(0x231, true));
    }

    @Sentence("UnsupportedOperationException: the path is 0, or it is there already")
    static void p02ThePathIsZero(Checks c) {
        ClusterVolume v = new ClusterVolume();
        c.same("a directory", UnsupportedOperationException.class, () -> v.make(0, true));
        c.same("a file", UnsupportedOperationException.class, () -> v.make(0, false));
        c.same("nothing is made", "0 0 0 0", () -> Volumes.clusterOf(v, 0));
    }

    @Sentence("UnsupportedOperationException: the path is 0, or it is there already")
    static void p02ThePathIsThereAlready(Checks c) {
        ClusterVolume v = Volumes.small();
        Class<?> due = UnsupportedOperationException.class;
        c.same("a file for a file", due, () -> v.make(1, false));
        c.same("a directory for a file", due, () -> v.make(1, true));
        c.same("a directory for a directory", due, () -> v.make(0x24, true));
        c.same("a file for a directory", due, () -> v.make(0x24, false));
        v.remove(1);
        c.same("behind an empty entry", due, () -> v.make(2, true));
        c.same("not there any more", 0, () -> v.make(1, true));
    }

    @Sentence(NONE_FREE)
    static void p02NoClusterIsFree(Checks c) {
        ClusterVolume v = Volumes.full();
        c.same("in the root", ArithmeticException.class, () -> v.make(5, false));
        c.same("in a directory", ArithmeticException.class, () -> v.make(0x25, true));
        c.same("in one without clusters", ArithmeticException.class, () -> v.make(0x241, true));
    }

    @Sentence(NONE_FREE)
    static void p02TheLastFreeClusterIsTaken(Checks c) {
        ClusterVolume v = Volumes.full();
        v.shorten(1, 27 * 4);
        c.same("free", 1, v::free);
        c.same("make", 31, () -> v.make(5, false));
        c.same("make once more", ArithmeticException.class, () -> v.make(6, false));
    }

    @Sentence(NONE_FREE)
    static void p02AnEmptyEntryNeedsNoFreeCluster(Checks c) {
        ClusterVolume v = Volumes.full();
        v.remove(0x24);
        c.same("free", 0, v::free);
        c.same("in another directory", ArithmeticException.class, () -> v.make(5, false));
        c.same("in the empty entry", 3, () -> v.make(0x25, true));
    }

    @Sentence(REMOVE)
    static void p03AFile(Checks c) {
        ClusterVolume v = Volumes.after(Volumes.smallWithFile(9));
        c.same("of three clusters", 3, () -> v.remove(1));
        c.same("it is not there", NoSuchElementException.class, () -> v.length(1));
        c.same("free", 28, v::free);
        c.same("its cells stay", "104 105 106 107", () -> Volumes.clusterOf(v, 5));
        c.same("of length 0", 0, () -> v.remove(0x23));
        v.make(1, false);
        Volumes.lengthen(v, 1, 4);
        c.same("of four cells", 1, () -> v.remove(1));
    }

    @Sentence(REMOVE)
    static void p03ADirectoryOfEmptyEntries(Checks c) {
        ClusterVolume v = Volumes.small();
        v.remove(0x23);
        v.remove(0x24);
        c.same("two empty entries", 2, () -> v.remove(2));
        c.same("it is not there", 1 << 1, () -> v.names(0));
        c.same("free", 30, v::free);
    }

    @Sentence(REMOVE)
    static void p03ADirectoryWithoutClusters(Checks c) {
        ClusterVolume v = Volumes.small();
        c.same("remove", 0, () -> v.remove(0x24));
        c.same("names", 1 << 3, () -> v.names(2));
        c.same("free", 28, v::free);
    }

    @Sentence("UnsupportedOperationException: it is a directory with names, or the root.")
    static void p03ADirectoryWithNames(Checks c) {
        ClusterVolume v = Volumes.small();
        c.same("two names", UnsupportedOperationException.class, () -> v.remove(2));
        v.remove(0x23);
        c.same("one behind an empty entry", UnsupportedOperationException.class,
                () -> v.remove(2));
        v.make(0x25, false);
        v.remove(0x24);
        c.same("one before an empty entry", UnsupportedOperationException.class,
                () -> v.remove(2));
        v.remove(0x25);
        c.same("none", 2, () -> v.remove(2));
    }

    @Sentence("UnsupportedOperationException: it is a directory with names, or the root.")
    static void p03TheRoot(Checks c) {
        ClusterVolume v = new ClusterVolume();
        c.same("without names", UnsupportedOperationException.class, () -> v.remove(0));
        v.make(1, false);
        c.same("with names", UnsupportedOperationException.class, () -> v.remove(0));
        v.remove(1);
        c.same("all of it empty", UnsupportedOperationException.class, () -> v.remove(0));
    }

    @Sentence("Renames the last name of a path: the path that leads there then.")
    static void p04ThePathThatLeadsThereThen(Checks c) {
        ClusterVolume v = Volumes.small();
        Volumes.lengthen(v, 0x23, 2);
        v.make(0x241, true);
        v.make(0x2411, true);
        c.same("four digits", 0x241F, () -> v.rename(0x2411, 15));
        c.same("three digits", 0x242, () -> v.rename(0x241, 2));
        c.same("two digits", 0x21, () -> v.rename(0x23, 1));
        c.same("one digit", 0xF, () -> v.rename(2, 15));
        c.same("the old one", NoSuchElementException.class, () -> v.length(0x21));
        c.same("the file is the same", 101, () -> v.get(0xF1, 1));
        c.same("what is below is the same", -1, () -> v.length(0xF42F));
    }

    @Sentence("IllegalArgumentException: name is not 1 .. 15")
    static void p04ANameThatIsNone(Checks c) {
        ClusterVolume v = Volumes.small();
        for (int name : new int[] {0, 16, 17, -1, 0x11, Integer.MIN_VALUE, Integer.MAX_VALUE}) {
            c.same("rename to " + name, IllegalArgumentException.class, () -> v.rename(1, name));
        }
        c.same("the greatest name", 15, () -> v.rename(1, 15));
        c.same("the least name", 1, () -> v.rename(15, 1));
    }

    @Sentence("UnsupportedOperationException: that name is in its directory already (its own,"
            + " too).")
    static void p04ANameThatIsThere(Checks c) {
        ClusterVolume v = Volumes.small();
        c.same("of a later entry", UnsupportedOperationException.class, () -> v.rename(0x23, 4));
        c.same("of an earlier entry", UnsupportedOperationException.class,
                () -> v.rename(0x24, 3));
        c.same("of another directory", 0x21, () -> v.rename(0x23, 1));
        c.same("that was there before", 0x23, () -> v.rename(0x24, 3));
    }

    @Sentence("UnsupportedOperationException: that name is in its directory already (its own,"
            + " too).")
    static void p04ItsOwnName(Checks c) {
        ClusterVolume v = Volumes.small();
        c.same("of a file", UnsupportedOperationException.class, () -> v.rename(1, 1));
        c.same("of a directory", UnsupportedOperationException.class, () -> v.rename(0x24, 4));
    }

    @Sentence("Appends a number to a file: its length then.")
    static void p05ItsLengthThen(Checks c) {
        ClusterVolume v = Volumes.small();
        for (int length = 1; length <= 9; length++) {
            c.same("append", length, () -> v.append(0x23, 7));
        }
        c.same("clusters", 25, v::free);
    }

    @Sentence("UnsupportedOperationException: it is a directory")
    static void p05ADirectory(Checks c) {
        ClusterVolume v = Volumes.small();
        c.same("with clusters", UnsupportedOperationException.class, () -> v.append(2, 1));
        c.same("without clusters", UnsupportedOperationException.class, () -> v.append(0x24, 1));
    }

    @Sentence(NONE_FREE)
    static void p05NoClusterIsFree(Checks c) {
        ClusterVolume v = Volumes.full();
        c.same("a last cluster without room", ArithmeticException.class, () -> v.append(1, 1));
        c.same("a file of length 0", ArithmeticException.class, () -> v.append(0x23, 1));
        c.same("the length stays", 112, () -> v.length(1));
        c.same("the other stays", 0, () -> v.length(0x23));
    }

    @Sentence(NONE_FREE)
    static void p05ALastClusterWithRoomNeedsNoFreeCluster(Checks c) {
        ClusterVolume v = Volumes.full();
        v.shorten(1, 109);
        c.same("free", 0, v::free);
        c.same("second", 110, () -> v.append(1, 1));
        c.same("third", 111, () -> v.append(1, 1));
        c.same("fourth", 112, () -> v.append(1, 1));
        c.same("no more", ArithmeticException.class, () -> v.append(1, 1));
    }

    @Sentence(NONE_FREE)
    static void p05TheLastFreeClusterIsTaken(Checks c) {
        ClusterVolume v = Volumes.full();
        v.shorten(1, 108);
        c.same("free", 1, v::free);
        c.same("append", 109, () -> v.append(1, 1));
        c.same("free then", 0, v::free);
    }

    @Sentence("Cell i of a file.")
    static void p06TheFirstAndTheLastCell(Checks c) {
        ClusterVolume v = Volumes.after(Volumes.smallWithFile(10));
        for (int i = 0; i < 10; i++) {
            int at = i;
            c.same("get " + i, 100 + i, () -> v.get(1, at));
        }
    }

    @Sentence("Cell i of a file. UnsupportedOperationException: it is a directory")
    static void p06ADirectory(Checks c) {
        ClusterVolume v = Volumes.small();
        c.same("with clusters", UnsupportedOperationException.class, () -> v.get(2, 0));
        c.same("without clusters", UnsupportedOperationException.class, () -> v.get(0x24, 0));
    }

    @Sentence(NO_CELL)
    static void p06NoSuchCell(Checks c) {
        ClusterVolume v = Volumes.after(Volumes.smallWithFile(5));
        noSuchCells(c, i -> v.get(1, i), -1, 5, 6, 8);
    }

    @Sentence(NO_CELL)
    static void p06NoSuchCellBehindAFullCluster(Checks c) {
        ClusterVolume v = Volumes.after(Volumes.smallWithFile(4));
        noSuchCells(c, i -> v.get(1, i), -1, 4, 5);
    }

    @Sentence(NO_CELL)
    static void p06AFileOfLengthZero(Checks c) {
        ClusterVolume v = Volumes.small();
        noSuchCells(c, i -> v.get(1, i), -1, 0, 1);
        v.append(1, 7);
        v.shorten(1, 0);
        noSuchCells(c, i -> v.get(1, i), -1, 0, 1);
    }

    @Sentence("Puts a number (a write also if it is that) at cell i of a file: what was there.")
    static void p07WhatWasThere(Checks c) {
        ClusterVolume v = Volumes.after(Volumes.smallWithFile(6));
        c.same("the first cell", 100, () -> v.put(1, 0, -1));
        c.same("the last of a cluster", 103, () -> v.put(1, 3, -4));
        c.same("the first of the next", 104, () -> v.put(1, 4, -5));
        c.same("the last cell", 105, () -> v.put(1, 5, Integer.MIN_VALUE));
        c.same("the last cell again", Integer.MIN_VALUE, () -> v.put(1, 5, -6));
        c.same("the first cluster", "-1 101 102 -4", () -> Volumes.clusterOf(v, 4));
        c.same("the second cluster", "-5 -6 0 0", () -> Volumes.clusterOf(v, 5));
        c.same("the length", 6, () -> v.length(1));
    }

    @Sentence("Puts a number (a write also if it is that) at cell i of a file: what was there.")
    static void p07TheNumberThatIsThereIsAWrite(Checks c) {
        ClusterVolume v = Volumes.after(Volumes.smallWithFile(1));
        v.arm(1);
        c.same("one write left", 100, () -> v.put(1, 0, 100));
        c.same("none left", IllegalStateException.class, () -> v.put(1, 0, 100));
    }

    @Sentence("Exceptions as for get().")
    static void p07NoSuchCell(Checks c) {
        ClusterVolume v = Volumes.after(Volumes.smallWithFile(5));
        noSuchCells(c, i -> v.put(1, i, 1), -1, 5, 6, 8);
        noSuchCells(c, i -> v.put(0x23, i, 1), -1, 0, 1);
        c.same("the cell behind", 0, () -> v.cell(5, 1));
    }

    @Sentence("Exceptions as for get().")
    static void p07ADirectory(Checks c) {
        ClusterVolume v = Volumes.small();
        c.same("with clusters", UnsupportedOperationException.class, () -> v.put(2, 0, 1));
        c.same("without clusters", UnsupportedOperationException.class, () -> v.put(0x24, 0, 1));
        c.same("not there", NoSuchElementException.class, () -> v.put(9, 0, 1));
    }

    @Sentence(SHORTEN)
    static void p08HowManyBecameFree(Checks c) {
        ClusterVolume v = Volumes.after(Volumes.smallWithFile(18));
        c.same("17 of 18", 0, () -> v.shorten(1, 17));
        c.same("16 of 17", 1, () -> v.shorten(1, 16));
        c.same("13 of 16", 0, () -> v.shorten(1, 13));
        c.same("5 of 13", 2, () -> v.shorten(1, 5));
        c.same("the length", 5, () -> v.length(1));
        c.same("free", 26, v::free);
        c.same("what is left", 104, () -> v.get(1, 4));
        c.same("what is not", IndexOutOfBoundsException.class, () -> v.get(1, 5));
        c.same("cells of free clusters stay", "108 109 110 111", () -> Volumes.clusterOf(v, 6));
    }

    @Sentence(SHORTEN)
    static void p08ToZero(Checks c) {
        ClusterVolume v = Volumes.after(Volumes.smallWithFile(9));
        c.same("0 of 9", 3, () -> v.shorten(1, 0));
        c.same("the length", 0, () -> v.length(1));
        c.same("free", 28, v::free);
        c.same("it is still there", 1 << 1 | 1 << 2, () -> v.names(0));
        c.same("append", 1, () -> v.append(1, 7));
        c.same("0 of 1", 1, () -> v.shorten(1, 0));
    }

    @Sentence(SHORTEN)
    static void p08ToItsOwnLength(Checks c) {
        ClusterVolume v = Volumes.after(Volumes.smallWithFile(5));
        v.arm(0);
        c.same("5 of 5", 0, () -> v.shorten(1, 5));
        c.same("0 of 0", 0, () -> v.shorten(0x23, 0));
        c.same("isDown", false, v::isDown);
        c.same("the length", 5, () -> v.length(1));
    }

    @Sentence("IndexOutOfBoundsException: length is below 0, or above that of the file.")
    static void p08BelowZero(Checks c) {
        ClusterVolume v = Volumes.after(Volumes.smallWithFile(5));
        noSuchCells(c, length -> v.shorten(1, length), -1, -2, -5);
        noSuchCells(c, length -> v.shorten(0x23, length), -1);
    }

    @Sentence("IndexOutOfBoundsException: length is below 0, or above that of the file.")
    static void p08AboveThatOfTheFile(Checks c) {
        ClusterVolume v = Volumes.after(Volumes.smallWithFile(5));
        noSuchCells(c, length -> v.shorten(1, length), 6, 8, 9);
        noSuchCells(c, length -> v.shorten(0x23, length), 1);
    }

    @Sentence("Shortens a file (to its own length, too)")
    static void p08ADirectory(Checks c) {
        ClusterVolume v = Volumes.small();
        c.same("with clusters", UnsupportedOperationException.class, () -> v.shorten(2, 0));
        c.same("without clusters", UnsupportedOperationException.class,
                () -> v.shorten(0x24, 0));
    }

    @Sentence(LENGTH)
    static void p09AFile(Checks c) {
        ClusterVolume v = Volumes.small();
        c.same("a new one", 0, () -> v.length(1));
        Volumes.lengthen(v, 1, 5);
        c.same("of five", 5, () -> v.length(1));
        v.shorten(1, 4);
        c.same("of four", 4, () -> v.length(1));
        v.shorten(1, 0);
        c.same("of none", 0, () -> v.length(1));
    }

    @Sentence(LENGTH)
    static void p09ADirectory(Checks c) {
        ClusterVolume v = Volumes.small();
        c.same("of two", -3, () -> v.length(2));
        c.same("without clusters", -1, () -> v.length(0x24));
        v.remove(0x23);
        c.same("of one and an empty entry", -2, () -> v.length(2));
        v.remove(0x24);
        c.same("of empty entries", -1, () -> v.length(2));
    }

    @Sentence(LENGTH)
    static void p09TheRoot(Checks c) {
        ClusterVolume v = new ClusterVolume();
        c.same("without entries", -1, () -> v.length(0));
        for (int name = 1; name <= 15; name++) {
            v.make(name, true);
        }
        c.same("of all names", -16, () -> v.length(0));
        v.remove(8);
        c.same("of one less", -15, () -> v.length(0));
    }

    @Sentence("The sum of 2 to the power of all names in a directory (or the root).")
    static void p10ADirectory(Checks c) {
        ClusterVolume v = Volumes.small();
        c.same("of two", 8 + 16, () -> v.names(2));
        c.same("without clusters", 0, () -> v.names(0x24));
        v.remove(0x23);
        c.same("of one and an empty entry", 16, () -> v.names(2));
        v.remove(0x24);
        c.same("of empty entries", 0, () -> v.names(2));
    }

    @Sentence("The sum of 2 to the power of all names in a directory (or the root).")
    static void p10TheRoot(Checks c) {
        ClusterVolume v = new ClusterVolume();
        c.same("without entries", 0, () -> v.names(0));
        v.make(15, false);
        c.same("the greatest", 32768, () -> v.names(0));
        v.make(1, false);
        c.same("and the least", 32770, () -> v.names(0));
        for (int name = 2; name <= 14; name++) {
            v.make(name, false);
        }
        c.same("all", 0xFFFE, () -> v.names(0));
    }

    @Sentence("UnsupportedOperationException: it is a file.")
    static void p10AFile(Checks c) {
        ClusterVolume v = Volumes.after(Volumes.smallWithFile(1));
        c.same("of length 1", UnsupportedOperationException.class, () -> v.names(1));
        c.same("of length 0", UnsupportedOperationException.class, () -> v.names(0x23));
    }

    @Sentence("How many clusters are FREE.")
    static void p11FromAllToNone(Checks c) {
        ClusterVolume v = new ClusterVolume();
        c.same("a new volume", 31, v::free);
        v.make(1, false);
        c.same("an entry that takes none", 31, v::free);
        v.make(2, true);
        c.same("an entry that takes one", 30, v::free);
        Volumes.lengthen(v, 1, 29 * 4);
        c.same("one", 1, v::free);
        v.append(1, 7);
        c.same("none", 0, v::free);
        v.remove(1);
        c.same("after a remove", 30, v::free);
    }

    @Sentence("So many writes more are done from now on (in place of what was told before)")
    static void p12InPlaceOfWhatWasToldBefore(Checks c) {
        ClusterVolume v = Volumes.after(Volumes.smallWithFile(1));
        v.arm(0);
        v.arm(2);
        c.same("more than before", 2, () -> v.append(1, 7));
        v.arm(9);
        v.arm(1);
        c.same("less than before", 100, () -> v.put(1, 0, 7));
        c.same("no sum of both", IllegalStateException.class, () -> v.put(1, 0, 8));
    }

    @Sentence("So many writes more are done from now on (in place of what was told before)")
    static void p12TheGreatestNumber(Checks c) {
        ClusterVolume v = Volumes.small();
        v.arm(Integer.MAX_VALUE);
        Volumes.lengthen(v, 1, 40);
        c.same("the length", 40, () -> v.length(1));
    }

    @Sentence("below 0 for any number")
    static void p12BelowZero(Checks c) {
        for (int writes : new int[] {-1, -2, -100, Integer.MIN_VALUE}) {
            ClusterVolume v = Volumes.small();
            v.arm(0);
            v.arm(writes);
            Volumes.lengthen(v, 1, 40);
            c.same("the length, armed with " + writes, 40, () -> v.length(1));
        }
    }

    @Sentence("Whether the power was lost, and no mount() was since.")
    static void p13LostAndNotMounted(Checks c) {
        ClusterVolume v = Volumes.small();
        c.same("at first", false, v::isDown);
        v.arm(0);
        c.same("armed with 0", false, v::isDown);
        c.same("without a write", 0, () -> v.length(1));
        c.same("still", false, v::isDown);
        c.same("a write", IllegalStateException.class, () -> v.rename(1, 9));
        c.same("lost", true, v::isDown);
        v.arm(-1);
        c.same("arm is no mount", true, v::isDown);
        v.mount();
        c.same("mounted", false, v::isDown);
    }

    @Sentence("A cell of a cluster; 0 when there is none such.")
    static void p15NoSuchCell(Checks c) {
        ClusterVolume v = new ClusterVolume();
        v.make(1, false);
        for (int i = 0; i < 31 * 4; i++) {
            v.append(1, 7);
        }
        int[][] none = {{-1, 0}, {-1, 3}, {-1, 4}, {0, -1}, {1, -1}, {0, 4}, {31, 4}, {5, -4},
            {32, 0}, {32, -1}, {33, -4}, {1 << 30, 0}, {Integer.MAX_VALUE, 0},
            {Integer.MIN_VALUE, 0}, {1, Integer.MAX_VALUE}, {1, Integer.MIN_VALUE}};
        for (int[] at : none) {
            c.same("cell " + at[0] + ", " + at[1], 0, () -> v.cell(at[0], at[1]));
        }
    }

    @Sentence("A cell of a cluster; 0 when there is none such.")
    static void p15TheFirstAndTheLastCell(Checks c) {
        ClusterVolume v = Volumes.full();
        c.same("the first", 1, () -> v.cell(0, 0));
        c.same("the last of the first cluster", 112, () -> v.cell(0, 3));
        c.same("the first of the last cluster", 208, () -> v.cell(31, 0));
        c.same("the last", 211, () -> v.cell(31, 3));
    }

    @Sentence("A cell of the table; 0 when there is none such.")
    static void p16NoSuchCell(Checks c) {
        ClusterVolume v = Volumes.full();
        for (int cluster : new int[] {-1, -2, 32, 33, Integer.MAX_VALUE, Integer.MIN_VALUE}) {
            c.same("table " + cluster, 0, () -> v.table(cluster));
        }
    }

    @Sentence("A cell of the table; 0 when there is none such.")
    static void p16TheFirstAndTheLastCell(Checks c) {
        ClusterVolume v = Volumes.small();
        c.same("the first", 1, () -> v.table(0));
        c.same("the last", -2, () -> v.table(31));
        Volumes.lengthen(v, 1, 112);
        c.same("the last but one, when full", 31, () -> v.table(30));
        c.same("the last, when full", -1, () -> v.table(31));
    }

    private interface PlaceCall {
        int run(int i);
    }

    private static void noSuchCells(Checks c, PlaceCall call, int... places) {
        for (int i : places) {
            c.same("place " + i, IndexOutOfBoundsException.class, () -> call.run(i));
        }
        for (int i : new int[] {Integer.MIN_VALUE, Integer.MAX_VALUE}) {
            c.same("place " + i, IndexOutOfBoundsException.class, () -> call.run(i));
        }
    }
}
