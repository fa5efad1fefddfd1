import java.util.ArrayList;
import java.util.Arrays;
import java.util.List;
import java.util.NoSuchElementException;
import java.util.TreeSet;

/**
 * A second telling of the document, to compare ClusterVolume with. A call first plans all its
 * writes as a list and then brings that list to the disk, as far as the power goes.
 */
final class ModelVolume {
    /** Cells of a cluster, or, if they are null, the table's cell for it. */
    private record Write(int cluster, int[] cells, int next) { }

    private record Entry(int cluster, int name, int kind, int first, int length) { }

    private static final Entry ROOT = new Entry(-1, 0, 2, 0, 0);

    private final int[][] cells = new int[32][4];
    private final int[] table = new int[32];
    private final List<Write> plan = new ArrayList<>();
    private long power = Long.MAX_VALUE;
    private boolean down = false;

    ModelVolume() {
        Arrays.fill(table, -2);
        table[0] = -1;
    }

    int make(int path, boolean directory) {
        List<Integer> names = begin(path);
        Entry parent = names.isEmpty() ? ROOT : walk(names.subList(0, names.size() - 1));
        if (parent.kind != 2) {
            throw new NoSuchElementException();
        }
        if (names.isEmpty() || child(parent, names.get(names.size() - 1)) != null) {
            throw new UnsupportedOperationException();
        }
        int[] entry = {names.get(names.size() - 1), directory ? 2 : 1, -1, 0};
        List<Integer> chain = chain(parent.first);
        for (int cluster : chain) {
            if (cells[cluster][0] == 0) {
                planCells(cluster, entry);
                return finish(cluster);
            }
        }
        int taken = leastFree();
        planCells(taken, entry);
        planTable(taken, -1);
        if (chain.isEmpty()) {
            planCells(parent.cluster, parent.name, 2, taken, 0);
        } else {
            planTable(chain.get(chain.size() - 1), taken);
        }
        return finish(taken);
    }

    int remove(int path) {
        Entry entry = entry(begin(path));
        if (entry.kind == 2 && nameSet(entry).size() > 0) {
            throw new UnsupportedOperationException();
        }
        List<Integer> chain = chain(entry.first);
        planCells(entry.cluster, 0, 0, 0, 0);
        chain.forEach(cluster -> planTable(cluster, -2));
        return finish(chain.size());
    }

    int rename(int path, int name) {
        List<Integer> names = begin(path);
        if (name < 1 || name > 15) {
            throw new IllegalArgumentException();
        }
        Entry entry = entry(names);
        Entry parent = walk(names.subList(0, names.size() - 1));
        if (nameSet(parent).contains(name)) {
            throw new UnsupportedOperationException();
        }
        planCells(entry.cluster, name, entry.kind, entry.first, entry.length);
        return finish(path - path % 16 + name);
    }

    int append(int path, int number) {
        Entry file = file(path);
        List<Integer> chain = chain(file.first);
        int first = file.first;
        if (file.length < 4 * chain.size()) {
            int last = chain.get(chain.size() - 1);
            int[] filled = cells[last].clone();
            filled[file.length - 4 * (chain.size() - 1)] = number;
            planCells(last, filled);
        } else {
            int taken = leastFree();
            planCells(taken, number, 0, 0, 0);
            planTable(taken, -1);
            if (chain.isEmpty()) {
                first = taken;
            } else {
                planTable(chain.get(chain.size() - 1), taken);
            }
        }
        planCells(file.cluster, file.name, 1, first, file.length + 1);
        return finish(file.length + 1);
    }

    int get(int path, int i) {
        Entry file = file(path);
        if (i < 0 || i >= file.length) {
            throw new IndexOutOfBoundsException();
        }
        return cells[chain(file.first).get(i / 4)][i % 4];
    }

    int put(int path, int i, int number) {
        int old = get(path, i);
        int cluster = chain(file(path).first).get(i / 4);
        int[] changed = cells[cluster].clone();
        changed[i % 4] = number;
        planCells(cluster, changed);
        return finish(old);
    }

    int shorten(int path, int length) {
        Entry file = file(path);
        if (length < 0 || length > file.length) {
            throw new IndexOutOfBoundsException();
        }
        if (length == file.length) {
            return 0;
        }
        List<Integer> chain = chain(file.first);
        int needed = (length + 3) / 4;
        List<Integer> rest = chain.subList(needed, chain.size());
        planCells(file.cluster, file.name, 1, length == 0 ? -1 : file.first, length);
        if (!rest.isEmpty() && needed > 0) {
            planTable(chain.get(needed - 1), -1);
        }
        rest.forEach(cluster -> planTable(cluster, -2));
        return finish(rest.size());
    }

    int length(int path) {
        Entry entry = walk(begin(path));
        return entry.kind == 2 ? -1 - nameSet(entry).size() : entry.length;
    }

    int names(int path) {
        Entry entry = walk(begin(path));
        if (entry.kind != 2) {
            throw new UnsupportedOperationException();
        }
        return nameSet(entry).stream().mapToInt(name -> 1 << name).sum();
    }

    int free() {
        if (down) {
            throw new IllegalStateException();
        }
        return (int) Arrays.stream(table).filter(next -> next == -2).count();
    }

    void arm(int writes) {
        power = writes < 0 ? Long.MAX_VALUE : writes;
    }

    boolean isDown() {
        return down;
    }

    int mount() {
        down = false;
        power = Long.MAX_VALUE;
        TreeSet<Integer> used = new TreeSet<>();
        reach(ROOT, used);
        int freed = 0;
        for (int cluster = 0; cluster < 32; cluster++) {
            if (!used.contains(cluster) && table[cluster] != -2) {
                table[cluster] = -2;
                freed++;
            }
        }
        return freed;
    }

    int cell(int cluster, int i) {
        return cluster < 0 || cluster > 31 || i < 0 || i > 3 ? 0 : cells[cluster][i];
    }

    int table(int cluster) {
        return cluster < 0 || cluster > 31 ? 0 : table[cluster];
    }

    private void reach(Entry entry, TreeSet<Integer> used) {
        List<Integer> chain = chain(entry.first);
        if (entry.kind == 1 && chain.size() > (entry.length + 3) / 4) {
            chain = chain.subList(0, (entry.length + 3) / 4);
            table[chain.get(chain.size() - 1)] = -1;
        }
        used.addAll(chain);
        if (entry.kind == 2) {
            for (int cluster : chain) {
                if (cells[cluster][0] != 0) {
                    reach(entryIn(cluster), used);
                }
            }
        }
    }

    /** The names of a path, after what is looked for first. */
    private List<Integer> begin(int path) {
        plan.clear();
        if (down) {
            throw new IllegalStateException();
        }
        if (path == 0) {
            return List.of();
        }
        String digits = Integer.toHexString(path);
        if (path < 0 || digits.length() > 4 || digits.contains("0")) {
            throw new IllegalArgumentException();
        }
        return digits.chars().map(digit -> Character.digit(digit, 16)).boxed().toList();
    }

    private Entry walk(List<Integer> names) {
        Entry at = ROOT;
        for (int name : names) {
            at = at.kind == 2 ? child(at, name) : null;
            if (at == null) {
                throw new NoSuchElementException();
            }
        }
        return at;
    }

    private Entry entry(List<Integer> names) {
        Entry entry = walk(names);
        if (entry == ROOT) {
            throw new UnsupportedOperationException();
        }
        return entry;
    }

    private Entry file(int path) {
        Entry entry = walk(begin(path));
        if (entry.kind != 1) {
            throw new UnsupportedOperationException();
        }
        return entry;
    }

    private Entry child(Entry directory, int name) {
        for (int cluster : chain(directory.first)) {
            if (cells[cluster][0] == name) {
                return entryIn(cluster);
            }
        }
        return null;
    }

    private TreeSet<Integer> nameSet(Entry directory) {
        TreeSet<Integer> found = new TreeSet<>();
        for (int cluster : chain(directory.first)) {
            found.add(cells[cluster][0]);
        }
        found.remove(0);
        return found;
    }

    private Entry entryIn(int cluster) {
        int[] row = cells[cluster];
        return new Entry(cluster, row[0], row[1], row[2], row[3]);
    }

    private List<Integer> chain(int first) {
        List<Integer> found = new ArrayList<>();
        for (int cluster = first; cluster != -1; cluster = table[cluster]) {
            if (found.contains(cluster)) {
                throw new AssertionError("a chain that goes round");
            }
            found.add(cluster);
        }
        return found;
    }

    private int leastFree() {
        for (int cluster = 0; cluster < 32; cluster++) {
            if (table[cluster] == -2) {
                return cluster;
            }
        }
        throw new ArithmeticException();
    }

    private void planCells(int cluster, int... row) {
        plan.add(new Write(cluster, row, 0));
    }

    private void planTable(int cluster, int next) {
        plan.add(new Write(cluster, null, next));
    }

    private int finish(int answer) {
        for (Write write : plan) {
            if (power == 0) {
                down = true;
                throw new IllegalStateException();
            }
            power--;
            if (write.cells != null) {
                cells[write.cluster] = write.cells.clone();
            } else {
                table[write.cluster] = write.next;
            }
        }
        return answer;
    }
}
