/** Promises 8 to 13: where, ask, group, order, rank, cell. */
public final class QuestionsTest {
    private static final long NOT_SEEN = 10000000000L;
    private static final int MIN = Integer.MIN_VALUE;
    private static final int MAX = Integer.MAX_VALUE;

    public static void main(String[] args) {
        where();
        whereWrong();
        whereIsForAll();
        ask();
        askWide();
        group();
        order();
        rank();
        cell();
        wrongAskers();
        ownChanges();
        Check.end();
    }

    private static SegmentStore table() {
        SegmentStore x = new SegmentStore();
        x.begin();
        x.insert(0, 5, -1, MAX);
        x.insert(0, 3, -1, 0);
        x.insert(0, 5, -2, MIN);
        x.insert(0, -4, -2, 7);
        x.insert(0, 3, -1, MAX);
        x.insert(0, 5, -3, 7);
        x.commit(0);
        return x;
    }

    private static void where() {
        SegmentStore x = table();
        Check.due("where: none", x.ask(-1, 0, 0), 6);
        Check.due("where: a range", x.where(0, 0, 3, 5), true);
        Check.due("where: both ends are in", x.ask(-1, 0, 0), 5);
        x.where(0, 0, 4, 5);
        Check.due("where: least", x.ask(-1, 0, 0), 3);
        x.where(0, 0, -4, 4);
        Check.due("where: most", x.ask(-1, 0, 0), 3);
        x.where(0, 0, 3, 3);
        Check.due("where: one value", x.ask(-1, 0, 0), 2);
        Check.due("where: empty range", x.where(0, 0, 5, 3), true);
        Check.due("where: empty range", x.ask(-1, 0, 0), 0);
        x.where(0, 0, 3, 5);
        x.where(1, 1, -1, -1);
        Check.due("where: both", x.ask(-1, 0, 0), 3);
        Check.due("where: none", x.where(0, -1, 100, 0), true);
        Check.due("where: the other alone", x.ask(-1, 0, 0), 3);
        x.where(1, 1, -3, -2);
        Check.due("where: the other alone", x.ask(-1, 0, 0), 3);
        x.where(0, 1, -2, 0);
        Check.due("where: the same column twice", x.ask(-1, 0, 0), 2);
        x.where(1, -1, 0, 0);
        Check.due("where: the first alone", x.ask(-1, 0, 0), 5);
        x.where(0, 2, MIN, MIN);
        Check.due("where: least int", x.ask(-1, 1, 2), MIN);
        x.where(0, 2, MAX, MAX);
        Check.due("where: greatest int", x.ask(-1, 0, 2), 2);
        x.where(0, 2, MIN, MAX);
        Check.due("where: all ints", x.ask(-1, 0, 2), 6);
        x.where(0, 2, MAX, MIN);
        Check.due("where: no int", x.ask(-1, 0, 2), 0);
        Check.due("where: state does not ask", x.state(4), 6);
        Check.due("where: state does not ask", x.state(2), 6);
    }

    private static void whereWrong() {
        SegmentStore x = table();
        x.where(0, 0, 3, 5);
        x.where(1, 1, -1, -1);
        Check.due("where: k -1", x.where(-1, 0, 0, 0), false);
        Check.due("where: k 2", x.where(2, 0, 0, 0), false);
        Check.due("where: k 2, none", x.where(2, -1, 0, 0), false);
        Check.due("where: k most", x.where(MAX, 0, 0, 0), false);
        Check.due("where: k least", x.where(MIN, 0, 0, 0), false);
        Check.due("where: column -2", x.where(0, -2, 0, 0), false);
        Check.due("where: column 3", x.where(1, 3, 0, 0), false);
        Check.due("where: column least", x.where(0, MIN, 0, 0), false);
        Check.due("where: column most", x.where(1, MAX, 0, 0), false);
        Check.due("where: nothing changed", x.ask(-1, 0, 0), 3);
        x.where(1, -1, 0, 0);
        Check.due("where: nothing changed", x.ask(-1, 0, 0), 5);
    }

    private static void whereIsForAll() {
        SegmentStore x = table();
        x.where(0, 0, 4, 9);
        x.begin();
        x.begin();
        x.insert(0, 9, 0, 0);
        x.insert(0, 10, 0, 0);
        x.update(1, 0, 0, 0);
        Check.due("where: of 0", x.ask(0, 0, 0), 4);
        Check.due("where: of 1", x.ask(1, 0, 0), 2);
        Check.due("where: of no one", x.ask(-1, 0, 0), 3);
        x.commit(0);
        x.abort(1);
        Check.due("where: stays", x.ask(-1, 0, 0), 4);
    }

    private static void ask() {
        SegmentStore x = table();
        long[][] due = {
            {6, 17, -4, 5, 3},
            {6, -10, -3, -1, 3},
            {6, 2L * MAX + MIN + 14, MIN, MAX, 4},
        };
        for (int column = 0; column < 3; column++) {
            for (int what = 0; what < 5; what++) {
                Check.due("ask " + what + " " + column, x.ask(-1, what, column), due[column][what]);
            }
            Check.due("ask -1", x.ask(-1, -1, column), 0);
            Check.due("ask 5", x.ask(-1, 5, column), 0);
            Check.due("ask most", x.ask(-1, MAX, column), 0);
        }
        for (int what = 0; what < 5; what++) {
            Check.due("ask: column -1", x.ask(-1, what, -1), 0);
            Check.due("ask: column 3", x.ask(-1, what, 3), 0);
            Check.due("ask: column most", x.ask(-1, what, MAX), 0);
            Check.due("ask: column least", x.ask(-1, what, MIN), 0);
        }
        x.where(0, 0, 6, 9);
        for (int what = 0; what < 5; what++) {
            Check.due("ask: no rows", x.ask(-1, what, 0), 0);
        }
        x.where(0, 0, 3, 3);
        Check.due("ask: least of those that pass", x.ask(-1, 2, 2), 0);
        Check.due("ask: greatest of negative ones", x.ask(-1, 3, 1), -1);
        Check.due("ask: different", x.ask(-1, 4, 1), 1);
    }

    private static void askWide() {
        SegmentStore x = new SegmentStore();
        for (int i = 0; i < 5; i++) {
            x.begin();
            for (int j = 0; j < 8; j++) {
                x.insert(0, MAX, MIN, 8 * i + j);
            }
            x.commit(0);
        }
        x.begin();
        for (int j = 0; j < 8; j++) {
            x.insert(0, MAX, MIN, 40 + j);
        }
        Check.due("wide: how many", x.ask(0, 0, 0), 48);
        Check.due("wide: sum", x.ask(0, 1, 0), 48L * MAX);
        Check.due("wide: sum", x.ask(0, 1, 1), 48L * MIN);
        Check.due("wide: sum", x.ask(0, 1, 2), 47 * 24);
        Check.due("wide: different", x.ask(0, 4, 2), 48);
        Check.due("wide: group", x.group(0, 2, 47, 0, 0), 47);
        Check.due("wide: group sum", x.group(0, 0, 0, 2, 1), 48L * MIN);
        Check.due("wide: last", x.order(0, 2, 47), 47);
        Check.due("wide: none", x.order(0, 2, 48), -1);
        Check.due("wide: rank", x.rank(0, 0, 47), 47);
    }

    private static void group() {
        SegmentStore x = table();
        long[] value = {-4, 3, 5};
        long[] count = {1, 2, 3};
        long[] sum = {7, MAX, 6};
        long[] greatest = {-2, -1, -1};
        for (int k = 0; k < 3; k++) {
            Check.due("group value", x.group(-1, 0, k, 0, 1), value[k]);
            Check.due("group count", x.group(-1, 0, k, 1, 1), count[k]);
            Check.due("group sum", x.group(-1, 0, k, 2, 2), sum[k]);
            Check.due("group greatest", x.group(-1, 0, k, 3, 1), greatest[k]);
        }
        Check.due("group by another", x.group(-1, 1, 0, 0, 0), -3);
        Check.due("group by another", x.group(-1, 1, 2, 2, 0), 11);
        Check.due("group by another", x.group(-1, 1, 2, 3, 0), 5);
        Check.due("group by itself", x.group(-1, 2, 3, 2, 2), 2L * MAX);
        Check.due("group of the least", x.group(-1, 2, 0, 0, 0), MIN);
        for (int what = 0; what < 4; what++) {
            Check.due("group: k 3", x.group(-1, 0, 3, what, 1), 0);
            Check.due("group: k -1", x.group(-1, 0, -1, what, 1), 0);
            Check.due("group: k most", x.group(-1, 0, MAX, what, 1), 0);
            Check.due("group: k least", x.group(-1, 0, MIN, what, 1), 0);
            Check.due("group: by -1", x.group(-1, -1, 0, what, 1), 0);
            Check.due("group: by 3", x.group(-1, 3, 0, what, 1), 0);
            Check.due("group: column -1", x.group(-1, 0, 0, what, -1), 0);
            Check.due("group: column 3", x.group(-1, 0, 0, what, 3), 0);
        }
        Check.due("group: what -1", x.group(-1, 0, 0, -1, 1), 0);
        Check.due("group: what 4", x.group(-1, 0, 0, 4, 1), 0);
        x.where(0, 2, 0, MAX);
        Check.due("group: those that pass", x.group(-1, 0, 2, 1, 0), 2);
        x.where(0, 0, 5, 5);
        Check.due("group: those that pass", x.group(-1, 0, 0, 0, 0), 5);
        Check.due("group: those that pass", x.group(-1, 0, 1, 0, 0), 0);
        Check.due("group: the rows stay", x.ask(-1, 0, 0), 3);
    }

    private static void order() {
        SegmentStore x = table();
        int[][] due = {{3, 1, 4, 0, 2, 5}, {5, 2, 3, 0, 1, 4}, {2, 1, 3, 5, 0, 4}};
        for (int column = 0; column < 3; column++) {
            for (int k = 0; k < 6; k++) {
                Check.due("order " + column + " " + k, x.order(-1, column, k), due[column][k]);
                Check.due("rank", x.rank(-1, column, due[column][k]), k);
            }
            Check.due("order: k 6", x.order(-1, column, 6), -1);
            Check.due("order: k -1", x.order(-1, column, -1), -1);
            Check.due("order: k most", x.order(-1, column, MAX), -1);
        }
        Check.due("order: column -1", x.order(-1, -1, 0), -1);
        Check.due("order: column 3", x.order(-1, 3, 0), -1);
        x.where(0, 0, 3, 5);
        Check.due("order: those that pass", x.order(-1, 0, 0), 1);
        Check.due("order: those that pass", x.order(-1, 0, 4), 5);
        Check.due("order: those that pass", x.order(-1, 0, 5), -1);
    }

    private static void rank() {
        SegmentStore x = table();
        Check.due("rank: row -1", x.rank(-1, 0, -1), -1);
        Check.due("rank: row 6", x.rank(-1, 0, 6), -1);
        Check.due("rank: column -1", x.rank(-1, -1, 0), -1);
        Check.due("rank: column 3", x.rank(-1, 3, 0), -1);
        x.where(0, 0, 3, 5);
        Check.due("rank: does not pass", x.rank(-1, 0, 3), -1);
        Check.due("rank: those that pass", x.rank(-1, 0, 1), 0);
        Check.due("rank: those that pass", x.rank(-1, 0, 5), 4);
        x.begin();
        x.update(0, 0, 1, 9);
        Check.due("rank: an updated row keeps its number", x.rank(0, 0, 0), 2);
        Check.due("rank: an updated row", x.rank(0, 1, 0), 4);
        Check.due("order: an updated row keeps its number", x.order(0, 0, 2), 0);
        x.commit(0);
        Check.due("rank: a committed one", x.rank(-1, 0, 0), 2);
        Check.due("order: a committed one", x.order(-1, 0, 2), 0);
        x.begin();
        x.remove(0, 1);
        Check.due("rank: a removed row", x.rank(0, 0, 1), -1);
        Check.due("rank: behind a removed row", x.rank(0, 0, 4), 0);
    }

    private static void cell() {
        SegmentStore x = table();
        Check.due("cell", x.cell(-1, 0, 0), 5);
        Check.due("cell", x.cell(-1, 0, 1), -1);
        Check.due("cell", x.cell(-1, 0, 2), MAX);
        Check.due("cell", x.cell(-1, 2, 2), MIN);
        Check.due("cell: column -1", x.cell(-1, 0, -1), NOT_SEEN);
        Check.due("cell: column 3", x.cell(-1, 0, 3), NOT_SEEN);
        Check.due("cell: row -1", x.cell(-1, -1, 0), NOT_SEEN);
        Check.due("cell: row 6", x.cell(-1, 6, 0), NOT_SEEN);
        Check.due("cell: row most", x.cell(-1, MAX, 0), NOT_SEEN);
        x.where(0, 0, 100, 200);
        Check.due("cell: passing or not", x.cell(-1, 5, 2), 7);
        x.begin();
        Check.due("cell: passing or not", x.cell(0, 5, 2), 7);
        x.update(0, 5, 2, 8);
        Check.due("cell: own, passing or not", x.cell(0, 5, 2), 8);
        x.remove(0, 5);
        Check.due("cell: own removed", x.cell(0, 5, 2), NOT_SEEN);
        Check.due("cell: of no one", x.cell(-1, 5, 2), 7);
        x.commit(0);
        Check.due("cell: removed", x.cell(-1, 5, 2), NOT_SEEN);
    }

    private static void wrongAskers() {
        SegmentStore x = table();
        x.begin();
        x.begin();
        x.abort(0);
        for (int t : new int[] {MIN, -2, 0, 2, 3, 4, MAX}) {
            for (int what = 0; what < 5; what++) {
                Check.due("ask of " + t, x.ask(t, what, 0), 0);
                Check.due("group of " + t, x.group(t, 0, 0, what, 0), 0);
            }
            Check.due("order of " + t, x.order(t, 0, 0), -1);
            Check.due("rank of " + t, x.rank(t, 0, 0), -1);
            Check.due("cell of " + t, x.cell(t, 0, 0), NOT_SEEN);
        }
        Check.due("ask of 1", x.ask(1, 0, 0), 6);
    }

    private static void ownChanges() {
        SegmentStore x = table();
        x.begin();
        x.begin();
        x.update(0, 3, 0, 100);
        x.remove(0, 0);
        int row = x.insert(0, 3, 50, 60);
        Check.due("own: how many", x.ask(0, 0, 0), 6);
        Check.due("own: sum", x.ask(0, 1, 0), 119);
        Check.due("own: least", x.ask(0, 2, 0), 3);
        Check.due("own: greatest", x.ask(0, 3, 0), 100);
        Check.due("own: different", x.ask(0, 4, 0), 3);
        Check.due("own: group", x.group(0, 0, 0, 1, 0), 3);
        Check.due("own: group", x.group(0, 0, 0, 3, 1), 50);
        Check.due("own: order", x.order(0, 0, 2), row);
        Check.due("own: rank", x.rank(0, 0, 3), 5);
        x.commit(0);
        Check.due("own: the other's sum", x.ask(1, 1, 0), 17);
        Check.due("own: the other's order", x.order(1, 0, 0), 3);
        Check.due("own: the other's rank", x.rank(1, 0, row), -1);
        Check.due("own: the other's group", x.group(1, 0, 0, 0, 0), -4);
        Check.due("own: no one's sum", x.ask(-1, 1, 0), 119);
    }
}
