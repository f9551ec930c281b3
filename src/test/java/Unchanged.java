import java.util.ArrayList;
import java.util.List;
import java.util.function.Consumer;
import java.util.function.ToLongFunction;

/**
 * Whether a call leaves everything as it was. The same calls are made on two objects, that one
 * call on the first alone, and then both are asked and changed in the same ways; each way of
 * going on has two objects of its own, as an object has but 512 calls.
 */
final class Unchanged {
    private interface GoingOn {
        void on(Store x, List<Long> answers);
    }

    private static final List<String> NAMES = new ArrayList<>();
    private static final List<GoingOn> WAYS = new ArrayList<>();

    private Unchanged() {
    }

    static {
        add("states and asks", Unchanged::statesAndAsks);
        add("groups", Unchanged::groups);
        for (int c = 0; c < 3; c++) {
            int column = c;
            add("orders of column " + c, (x, answers) -> orders(x, column, answers));
            add("ranks in column " + c, (x, answers) -> ranks(x, column, answers));
            add("cells of column " + c, (x, answers) -> cells(x, column, answers));
        }
        add("without condition 0", (x, answers) -> withoutConditions(x, 0, answers));
        add("without condition 1", (x, answers) -> withoutConditions(x, 1, answers));
        add("begins", Unchanged::begins);
        for (int i = 0; i < 4; i++) {
            int t = i;
            add("commit of " + t, (x, answers) -> commits(x, t, answers));
            add("abort of " + t, (x, answers) -> aborts(x, t, answers));
            add("inserts of " + t, (x, answers) -> inserts(x, t, answers));
            add("updates of " + t, (x, answers) -> updates(x, t, answers));
            add("removes of " + t, (x, answers) -> removes(x, t, answers));
        }
    }

    private static void add(String name, GoingOn way) {
        NAMES.add(name);
        WAYS.add(way);
    }

    /** Behind the calls before, the call answers what is due and changes nothing. */
    static void by(Consumer<Store> before, ToLongFunction<Store> call, long due) {
        alike(before, call, due, x -> { });
    }

    /** Behind the calls before, the call answers what is due and changes what the others do. */
    static void alike(Consumer<Store> before, ToLongFunction<Store> call, long due,
            Consumer<Store> others) {
        for (int way = 0; way < WAYS.size(); way++) {
            Store one = new Store();
            before.accept(one);
            Check.due(call.applyAsLong(one), due);
            String name = Store.lastCall() + ", then " + NAMES.get(way) + ": answer ";
            Store other = new Store();
            before.accept(other);
            others.accept(other);
            compare(name, answers(way, one), answers(way, other));
        }
    }

    private static List<Long> answers(int way, Store x) {
        List<Long> answers = new ArrayList<>();
        WAYS.get(way).on(x, answers);
        return answers;
    }

    private static void compare(String name, List<Long> got, List<Long> want) {
        Check.due(name + "count", got.size(), want.size());
        for (int i = 0; i < got.size() && i < want.size(); i++) {
            Check.due(name + i, got.get(i), want.get(i));
        }
    }

    private static void states(Store x, List<Long> answers) {
        for (int what = 0; what < 5; what++) {
            answers.add((long) x.state(what));
        }
    }

    private static void statesAndAsks(Store x, List<Long> answers) {
        states(x, answers);
        for (int t = -1; t < 4; t++) {
            for (int what = 0; what < 5; what++) {
                for (int column = 0; column < 3; column++) {
                    answers.add(x.ask(t, what, column));
                }
            }
        }
    }

    private static void groups(Store x, List<Long> answers) {
        for (int t = -1; t < 4; t++) {
            for (int k = 0; k < 20; k++) {
                for (int what = 0; what < 4; what++) {
                    answers.add(x.group(t, k % 3, k / 3, what, what % 3));
                }
            }
        }
    }

    private static void orders(Store x, int column, List<Long> answers) {
        for (int t = -1; t < 4; t++) {
            int row = 0;
            for (int k = 0; k < 50 && row >= 0; k++) {
                row = x.order(t, column, k);
                answers.add((long) row);
            }
        }
    }

    private static void ranks(Store x, int column, List<Long> answers) {
        int rows = x.state(1);
        for (int t = -1; t < 4; t++) {
            for (int row = -1; row <= rows; row++) {
                answers.add((long) x.rank(t, column, row));
            }
        }
    }

    private static void cells(Store x, int column, List<Long> answers) {
        int rows = x.state(1);
        for (int t = -1; t < 4; t++) {
            for (int row = -1; row <= rows; row++) {
                answers.add(x.cell(t, row, column));
            }
        }
    }

    private static void cellsOf(Store x, int t, int column, List<Long> answers) {
        int rows = x.state(1);
        for (int row = 0; row <= rows; row++) {
            answers.add(x.cell(t, row, column));
        }
    }

    private static void withoutConditions(Store x, int first, List<Long> answers) {
        for (int i = 0; i < 2; i++) {
            answers.add(x.where((first + i) % 2, -1, 0, 0) ? 1L : 0L);
            statesAndAsks(x, answers);
        }
    }

    private static void begins(Store x, List<Long> answers) {
        for (int i = 0; i < 5; i++) {
            answers.add((long) x.begin());
        }
        statesAndAsks(x, answers);
    }

    private static void commits(Store x, int first, List<Long> answers) {
        for (int i = 0; i < 4; i++) {
            answers.add((long) x.commit((first + i) % 4));
            states(x, answers);
            cellsOf(x, -1, i % 3, answers);
        }
        begins(x, answers);
    }

    private static void aborts(Store x, int first, List<Long> answers) {
        for (int i = 0; i < 4; i++) {
            answers.add(x.abort((first + i) % 4) ? 1L : 0L);
            states(x, answers);
        }
        begins(x, answers);
    }

    private static void inserts(Store x, int t, List<Long> answers) {
        for (int i = 0; i < 9; i++) {
            answers.add((long) x.insert(t, 3, 30, 300 + i));
        }
        answers.add((long) x.commit(t));
        statesAndAsks(x, answers);
        cellsOf(x, -1, 2, answers);
    }

    private static void updates(Store x, int t, List<Long> answers) {
        int rows = x.state(1);
        for (int row = rows; row >= 0; row--) {
            answers.add((long) x.update(t, row, 2, 1000 - row));
        }
        cellsOf(x, t, 2, answers);
        answers.add((long) x.commit(t));
        states(x, answers);
        cellsOf(x, -1, 2, answers);
    }

    private static void removes(Store x, int t, List<Long> answers) {
        int rows = x.state(1);
        for (int row = 0; row <= rows; row++) {
            answers.add((long) x.remove(t, row));
        }
        cellsOf(x, t, 0, answers);
        answers.add((long) x.commit(t));
        states(x, answers);
        cellsOf(x, -1, 0, answers);
    }
}
