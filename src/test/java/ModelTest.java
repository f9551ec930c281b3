import java.util.Random;

/**
 * All promises together: long runs of calls, the same in every run of this test, on the store and
 * on the model. In some of them pack is called behind every other call. Behind the 512th call the
 * store has still to answer something, and not to throw.
 */
public final class ModelTest {
    private static final int RUNS = 3000;
    private static final int CALLS = 512;
    private static final int CALLS_BEHIND = 3000;
    private static final int[] EDGES = {
        Integer.MIN_VALUE, Integer.MIN_VALUE + 1, -70000, -2, -1, 0, 1, 2, 3, 4, 5, 70000,
        Integer.MAX_VALUE - 1, Integer.MAX_VALUE};

    private final Random random;
    private final int[] weights;
    private final int spread;
    private final SegmentStore store = new SegmentStore();
    private final Model model = new Model();
    private final int[] seenAnswers;
    private final boolean packed;

    private ModelTest(int seed, int[] seenAnswers) {
        this.random = new Random(seed);
        this.seenAnswers = seenAnswers;
        this.packed = seed % 5 == 0;
        // begin, insert, update, remove, commit, abort, where, ask, group, order, rank, cell,
        // pack, state
        int[][] mixes = {
            {6, 12, 12, 4, 6, 1, 2, 6, 6, 5, 5, 5, 1, 5},
            {6, 30, 4, 1, 6, 0, 1, 2, 2, 2, 2, 2, 1, 3},
            {5, 30, 12, 2, 4, 0, 1, 2, 2, 2, 2, 2, 1, 3},
            {6, 10, 25, 8, 3, 1, 1, 2, 2, 2, 2, 2, 1, 4},
        };
        this.weights = mixes[seed % mixes.length];
        this.spread = new int[] {3, 10, 1000}[seed % 3];
    }

    public static void main(String[] args) {
        int[] seenAnswers = new int[4];
        for (int seed = 0; seed < RUNS && Check.wrong() < 20; seed++) {
            ModelTest run = new ModelTest(seed, seenAnswers);
            int calls = run.packed ? CALLS / 2 : CALLS;
            for (int i = 0; i < calls && Check.wrong() < 20; i++) {
                run.call("seed " + seed + " call " + i + ": ", true);
            }
            if (seed % 50 == 0) {
                for (int i = 0; i < CALLS_BEHIND; i++) {
                    run.call("", false);
                }
            }
        }
        for (int answer = 0; answer < 4; answer++) {
            Check.due("commits that answered -" + answer, seenAnswers[answer] > 100, true);
        }
        Check.end();
    }

    private int number(int common) {
        return random.nextInt(40) == 0 ? EDGES[random.nextInt(EDGES.length)] : random.nextInt(common);
    }

    private int value() {
        return number(spread) - (random.nextInt(8) == 0 ? spread : 0);
    }

    private int asker() {
        return number(5) - 1;
    }

    private int row() {
        int rows = Math.max(1, model.state(1));
        return random.nextInt(3) == 0 ? number(rows) : Math.max(0, rows - 1 - number(12));
    }

    private int pick() {
        int total = 0;
        for (int weight : weights) {
            total += weight;
        }
        int left = random.nextInt(total);
        int kind = 0;
        while (left >= weights[kind]) {
            left -= weights[kind];
            kind++;
        }
        return kind;
    }

    private void call(String at, boolean compared) {
        int kind = pick();
        int t = kind >= 7 ? asker() : number(4);
        int column = number(3);
        int other = number(3);
        int k = number(12);
        int what = number(5);
        int row = row();
        int a = value();
        int b = value();
        int c = value();
        if (kind == 6 && random.nextInt(3) == 0) {
            column = -1;
        }
        int[] arguments = {kind, t, column, other, k, what, row, a, b, c};
        long got = ofStore(arguments);
        if (!compared) {
            return;
        }
        long want = ofModel(arguments);
        Check.due(at + java.util.Arrays.toString(arguments), got, want);
        if (packed) {
            store.pack();
        }
        if (kind == 4 && want <= 0 && want >= -3) {
            seenAnswers[(int) -want]++;
        }
    }

    private long ofStore(int[] x) {
        int t = x[1];
        switch (x[0]) {
            case 0: return store.begin();
            case 1: return store.insert(t, x[7], x[8], x[9]);
            case 2: return store.update(t, x[6], x[2], x[7]);
            case 3: return store.remove(t, x[6]);
            case 4: return store.commit(t);
            case 5: return store.abort(t) ? 1 : 0;
            case 6: return store.where(x[3], x[2], x[7], x[8]) ? 1 : 0;
            case 7: return store.ask(t, x[5], x[2]);
            case 8: return store.group(t, x[3], x[4], x[5], x[2]);
            case 9: return store.order(t, x[2], x[4]);
            case 10: return store.rank(t, x[2], x[6]);
            case 11: return store.cell(t, x[6], x[2]);
            case 12: store.pack(); return 0;
            default: return store.state(x[5]);
        }
    }

    private long ofModel(int[] x) {
        int t = x[1];
        switch (x[0]) {
            case 0: return model.begin();
            case 1: return model.insert(t, x[7], x[8], x[9]);
            case 2: return model.update(t, x[6], x[2], x[7]);
            case 3: return model.remove(t, x[6]);
            case 4: return model.commit(t);
            case 5: return model.abort(t) ? 1 : 0;
            case 6: return model.where(x[3], x[2], x[7], x[8]) ? 1 : 0;
            case 7: return model.ask(t, x[5], x[2]);
            case 8: return model.group(t, x[3], x[4], x[5], x[2]);
            case 9: return model.order(t, x[2], x[4]);
            case 10: return model.rank(t, x[2], x[6]);
            case 11: return model.cell(t, x[6], x[2]);
            case 12: return 0;
            default: return model.state(x[5]);
        }
    }
}
