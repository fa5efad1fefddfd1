/** Volumes to begin with, and what is on them as a text. */
final class Volumes {
    static final int CLUSTERS = 32;

    interface Step {
        void run(ClusterVolume v);
    }

    private Volumes() { }

    /**
     * A file 1 (cluster 0) and a directory 2 (cluster 1), in it a file 3 (cluster 2) and a
     * directory 4 (cluster 3); the files have the length 0, and directory 4 no clusters.
     */
    static ClusterVolume small() {
        return after(Volumes::makeSmall);
    }

    static void makeSmall(ClusterVolume v) {
        v.make(1, false);
        v.make(2, true);
        v.make(0x23, false);
        v.make(0x24, true);
    }

    /** The small one, file 1 of which has all the rest of the clusters, 4 to 31. */
    static ClusterVolume full() {
        return after(Volumes::makeFull);
    }

    static void makeFull(ClusterVolume v) {
        makeSmall(v);
        lengthen(v, 1, 28 * 4);
    }

    /** The small one, but file 1 has the clusters 5 and 4, in this order, and no file 3 is left. */
    static void makeFileGoingDown(ClusterVolume v) {
        makeSmall(v);
        lengthen(v, 0x23, 1);
        lengthen(v, 1, 1);
        v.remove(0x23);
        lengthen(v, 1, 5);
    }

    /** A directory 2 (cluster 1) with the files 1 and 2 in the clusters 3 and 2, in this order. */
    static void makeDirectoryGoingDown(ClusterVolume v) {
        v.make(1, false);
        v.make(2, true);
        v.append(1, 7);
        v.make(0x21, false);
        v.shorten(1, 0);
        v.make(0x22, false);
    }

    static ClusterVolume after(Step steps) {
        ClusterVolume v = new ClusterVolume();
        steps.run(v);
        return v;
    }

    static Step smallWithFile(int length) {
        return v -> {
            makeSmall(v);
            lengthen(v, 1, length);
        };
    }

    /** Appends 100 more than the place to each place up to a length. */
    static void lengthen(ClusterVolume v, int path, int length) {
        for (int i = v.length(path); i < length; i++) {
            v.append(path, 100 + i);
        }
    }

    /** What a call leaves behind that has so many writes; it may lose the power. */
    static ClusterVolume armedRun(int writes, Step before, Step call) {
        ClusterVolume v = after(before);
        v.arm(writes);
        Checks.answerOf(() -> {
            call.run(v);
            return "an answer";
        });
        return v;
    }

    /** The power is lost in the first write of a call; the disk stays as it is. */
    static void losePower(ClusterVolume v) {
        v.arm(0);
        Checks.answerOf(() -> v.rename(1, 13));
    }

    static ClusterVolume smallAndDown() {
        ClusterVolume v = small();
        losePower(v);
        return v;
    }

    static String clusterOf(ClusterVolume v, int cluster) {
        return v.cell(cluster, 0) + " " + v.cell(cluster, 1) + " " + v.cell(cluster, 2) + " "
                + v.cell(cluster, 3);
    }

    static String cellsOf(ClusterVolume v) {
        StringBuilder text = new StringBuilder();
        for (int cluster = 0; cluster < CLUSTERS; cluster++) {
            text.append(clusterOf(v, cluster)).append('\n');
        }
        return text.toString();
    }

    static String tableOf(ClusterVolume v) {
        StringBuilder text = new StringBuilder();
        for (int cluster = 0; cluster < CLUSTERS; cluster++) {
            text.append(v.table(cluster)).append(' ');
        }
        return text.toString();
    }

    static String diskOf(ClusterVolume v) {
        return cellsOf(v) + tableOf(v);
    }

    /** What is reached from a directory on: each path with its length and the cells of files. */
    static String treeOf(ClusterVolume v, int directory) {
        StringBuilder text = new StringBuilder();
        int names = v.names(directory);
        for (int name = 1; name <= 15; name++) {
            if ((names >> name & 1) != 0) {
                text.append(entryOf(v, directory * 16 + name));
            }
        }
        return text.toString();
    }

    private static String entryOf(ClusterVolume v, int path) {
        int length = v.length(path);
        StringBuilder text = new StringBuilder(Integer.toHexString(path) + ": " + length);
        for (int i = 0; i < length; i++) {
            text.append(' ').append(v.get(path, i));
        }
        return text + "\n" + (length < 0 ? treeOf(v, path) : "");
    }
}
