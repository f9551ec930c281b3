import java.util.Arrays;

/**
 * A SegmentStore that counts its calls. Behind the 512th its answers are free, so that a test
 * that goes on there tests nothing and is wrong itself.
 */
final class Store {
    static final int OK = SegmentStore.OK;
    static final int NONE = SegmentStore.NONE;
    static final int CONFLICT = SegmentStore.CONFLICT;
    static final int FULL = SegmentStore.FULL;
    static final int MOST_CALLS = 512;

    private static String lastName = "no call";
    private static int[] lastArguments = {};

    private final SegmentStore store = new SegmentStore();
    private int calls = 0;

    static String lastCall() {
        String arguments = Arrays.toString(lastArguments);
        return lastName + "(" + arguments.substring(1, arguments.length() - 1) + ")";
    }

    int calls() {
        return calls;
    }

    private void count(String name, int... arguments) {
        lastName = name;
        lastArguments = arguments;
        calls++;
        if (calls == MOST_CALLS + 1) {
            Check.due("a test that calls too often: calls", calls, MOST_CALLS);
        }
    }

    int begin() {
        count("begin");
        return store.begin();
    }

    int insert(int t, int a, int b, int c) {
        count("insert", t, a, b, c);
        return store.insert(t, a, b, c);
    }

    int update(int t, int row, int column, int v) {
        count("update", t, row, column, v);
        return store.update(t, row, column, v);
    }

    int remove(int t, int row) {
        count("remove", t, row);
        return store.remove(t, row);
    }

    int commit(int t) {
        count("commit", t);
        return store.commit(t);
    }

    boolean abort(int t) {
        count("abort", t);
        return store.abort(t);
    }

    boolean where(int k, int column, int least, int most) {
        count("where", k, column, least, most);
        return store.where(k, column, least, most);
    }

    long ask(int t, int what, int column) {
        count("ask", t, what, column);
        return store.ask(t, what, column);
    }

    long group(int t, int by, int k, int what, int column) {
        count("group", t, by, k, what, column);
        return store.group(t, by, k, what, column);
    }

    int order(int t, int column, int k) {
        count("order", t, column, k);
        return store.order(t, column, k);
    }

    int rank(int t, int column, int row) {
        count("rank", t, column, row);
        return store.rank(t, column, row);
    }

    long cell(int t, int row, int column) {
        count("cell", t, row, column);
        return store.cell(t, row, column);
    }

    void pack() {
        count("pack");
        store.pack();
    }

    int state(int what) {
        count("state", what);
        return store.state(what);
    }
}
