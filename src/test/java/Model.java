import java.util.ArrayList;
import java.util.Collections;
import java.util.IdentityHashMap;
import java.util.List;
import java.util.Map;
import java.util.Set;
import java.util.TreeMap;
import java.util.TreeSet;

/**
 * The document once more, held in another way: the whole table at each time of the clock. A
 * version is an array, the same one in every table in which it holds.
 */
final class Model {
    private static final class Transaction {
        int start;
        final Map<Integer, int[]> changes = new TreeMap<>();
        final Set<Integer> inserted = new TreeSet<>();
    }

    private final List<Map<Integer, int[]>> tables = new ArrayList<>();
    private final Transaction[] transactions = new Transaction[4];
    private final int[][] conditions = new int[2][];
    private int rows = 0;

    Model() {
        tables.add(new TreeMap<>());
    }

    private int clock() {
        return tables.size() - 1;
    }

    private Transaction at(int t) {
        return t < 0 || t > 3 ? null : transactions[t];
    }

    int begin() {
        for (int t = 0; t < 4; t++) {
            if (transactions[t] == null) {
                transactions[t] = new Transaction();
                transactions[t].start = clock();
                return t;
            }
        }
        return -1;
    }

    int insert(int t, int a, int b, int c) {
        Transaction x = at(t);
        if (x == null) {
            return -1;
        }
        if (x.changes.size() == 8) {
            return -3;
        }
        x.changes.put(rows, new int[] {a, b, c});
        x.inserted.add(rows);
        return rows++;
    }

    int update(int t, int row, int column, int v) {
        Transaction x = at(t);
        if (x == null || column < 0 || column > 2 || !seen(t).containsKey(row)) {
            return -1;
        }
        if (!x.changes.containsKey(row) && x.changes.size() == 8) {
            return -3;
        }
        int[] ints = seen(t).get(row).clone();
        ints[column] = v;
        x.changes.put(row, ints);
        return 0;
    }

    int remove(int t, int row) {
        Transaction x = at(t);
        if (x == null || !seen(t).containsKey(row)) {
            return -1;
        }
        if (!x.changes.containsKey(row) && x.changes.size() == 8) {
            return -3;
        }
        x.changes.put(row, null);
        return 0;
    }

    int commit(int t) {
        Transaction x = at(t);
        if (x == null) {
            return -1;
        }
        boolean changed = false;
        for (int row : x.changes.keySet()) {
            if (!x.inserted.contains(row)
                    && tables.get(clock()).get(row) != tables.get(x.start).get(row)) {
                transactions[t] = null;
                return -2;
            }
            changed |= !x.inserted.contains(row) || x.changes.get(row) != null;
        }
        transactions[t] = null;
        if (!changed) {
            return 0;
        }
        Map<Integer, int[]> table = new TreeMap<>(tables.get(clock()));
        for (Map.Entry<Integer, int[]> change : x.changes.entrySet()) {
            table.remove(change.getKey());
            if (change.getValue() != null) {
                table.put(change.getKey(), change.getValue().clone());
            }
        }
        tables.add(table);
        if (live() > 40) {
            tables.remove(clock());
            transactions[t] = x;
            return -3;
        }
        return 0;
    }

    boolean abort(int t) {
        if (at(t) == null) {
            return false;
        }
        transactions[t] = null;
        return true;
    }

    boolean where(int k, int column, int least, int most) {
        if (k < 0 || k > 1 || column < -1 || column > 2) {
            return false;
        }
        conditions[k] = column == -1 ? null : new int[] {column, least, most};
        return true;
    }

    private Map<Integer, int[]> seen(int t) {
        if (t == -1) {
            return tables.get(clock());
        }
        Transaction x = at(t);
        if (x == null) {
            return new TreeMap<>();
        }
        Map<Integer, int[]> table = new TreeMap<>(tables.get(x.start));
        table.putAll(x.changes);
        table.values().removeIf(ints -> ints == null);
        return table;
    }

    private Map<Integer, int[]> asked(int t) {
        Map<Integer, int[]> table = new TreeMap<>(seen(t));
        for (int[] c : conditions) {
            if (c != null) {
                table.values().removeIf(ints -> ints[c[0]] < c[1] || ints[c[0]] > c[2]);
            }
        }
        return table;
    }

    private static TreeMap<Integer, List<int[]>> groups(Map<Integer, int[]> table, int by) {
        TreeMap<Integer, List<int[]>> groups = new TreeMap<>();
        for (int[] ints : table.values()) {
            groups.computeIfAbsent(ints[by], value -> new ArrayList<>()).add(ints);
        }
        return groups;
    }

    private static long sum(Iterable<int[]> all, int column) {
        long sum = 0;
        for (int[] ints : all) {
            sum += ints[column];
        }
        return sum;
    }

    long ask(int t, int what, int column) {
        if (column < 0 || column > 2) {
            return 0;
        }
        Map<Integer, int[]> table = asked(t);
        if (table.isEmpty()) {
            return 0;
        }
        TreeMap<Integer, List<int[]>> groups = groups(table, column);
        switch (what) {
            case 0: return table.size();
            case 1: return sum(table.values(), column);
            case 2: return groups.firstKey();
            case 3: return groups.lastKey();
            case 4: return groups.size();
            default: return 0;
        }
    }

    long group(int t, int by, int k, int what, int column) {
        if (by < 0 || by > 2 || column < 0 || column > 2) {
            return 0;
        }
        TreeMap<Integer, List<int[]>> groups = groups(asked(t), by);
        if (k < 0 || k >= groups.size()) {
            return 0;
        }
        int value = new ArrayList<>(groups.keySet()).get(k);
        List<int[]> members = groups.get(value);
        switch (what) {
            case 0: return value;
            case 1: return members.size();
            case 2: return sum(members, column);
            case 3: return members.stream().mapToInt(ints -> ints[column]).max().getAsInt();
            default: return 0;
        }
    }

    private List<Integer> ordered(int t, int column) {
        Map<Integer, int[]> table = asked(t);
        List<Integer> order = new ArrayList<>(table.keySet());
        // The keys ascend and the sort is stable, so equal ones stay in the order of their numbers.
        order.sort((one, other) -> Integer.compare(table.get(one)[column], table.get(other)[column]));
        return order;
    }

    int order(int t, int column, int k) {
        if (column < 0 || column > 2) {
            return -1;
        }
        List<Integer> order = ordered(t, column);
        return k < 0 || k >= order.size() ? -1 : order.get(k);
    }

    int rank(int t, int column, int row) {
        return column < 0 || column > 2 ? -1 : ordered(t, column).indexOf(row);
    }

    long cell(int t, int row, int column) {
        int[] ints = seen(t).get(row);
        return ints == null || column < 0 || column > 2 ? 10000000000L : ints[column];
    }

    private int live() {
        Set<int[]> live = Collections.newSetFromMap(new IdentityHashMap<>());
        live.addAll(tables.get(clock()).values());
        for (Transaction x : transactions) {
            if (x != null) {
                live.addAll(tables.get(x.start).values());
            }
        }
        return live.size();
    }

    int state(int what) {
        switch (what) {
            case 0: return clock();
            case 1: return rows;
            case 2: return live();
            case 3:
                int open = 0;
                for (Transaction x : transactions) {
                    open += x == null ? 0 : 1;
                }
                return open;
            case 4: return tables.get(clock()).size();
            default: return -1;
        }
    }
}
