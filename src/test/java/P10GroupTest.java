/** Promise 10: group. */
public final class P10GroupTest {
    public static void main(String[] args) {
        eachWhat();
        ascending();
        sumsBeyondInt();
        all48();
        noSuchValue();
        noRows();
        notOpen();
        noSuchColumns();
        noSuchWhat();
        thoseThatPass();
        Check.end();
    }

    private static void eachWhat() {
        Check.sentence("what 0 that value; 1: how many; 2: the sum of a column; 3: its greatest.");
        Store x = Questions.table();
        long[] value = {-4, 3, 5};
        long[] count = {1, 2, 3};
        long[][] sum = {{-4, -2, 7}, {6, -2, Check.MAX}, {15, -6, 6}};
        long[][] greatest = {{-4, -2, 7}, {3, -1, Check.MAX}, {5, -1, Check.MAX}};
        for (int k = 0; k < 3; k++) {
            for (int column = 0; column < 3; column++) {
                Check.due(x.group(-1, 0, k, 0, column), value[k]);
                Check.due(x.group(-1, 0, k, 1, column), count[k]);
                Check.due(x.group(-1, 0, k, 2, column), sum[k][column]);
                Check.due(x.group(-1, 0, k, 3, column), greatest[k][column]);
            }
        }
        Check.due(x.group(-1, 1, 0, 0, 0), -3);
        Check.due(x.group(-1, 1, 2, 2, 0), 11);
        Check.due(x.group(-1, 1, 2, 3, 0), 5);
        Check.due(x.group(-1, 2, 3, 2, 2), 2L * Check.MAX);
        Check.due(x.ask(-1, 0, 0), 6);
    }

    private static void ascending() {
        Check.sentence("those with the k-th (0 first) of the ascending different values of column by");
        int[] values = {0, Check.MAX, Check.MIN, -1, Check.MAX, 1, Check.MIN, 0};
        int[] due = {Check.MIN, -1, 0, 1, Check.MAX};
        int[] count = {2, 1, 2, 1, 2};
        for (int by = 0; by < 3; by++) {
            Store x = new Store();
            x.begin();
            for (int v : values) {
                x.insert(0, by == 0 ? v : 7, by == 1 ? v : 7, by == 2 ? v : 7);
            }
            for (int k = 0; k < due.length; k++) {
                Check.due(x.group(0, by, k, 0, by), due[k]);
                Check.due(x.group(0, by, k, 1, by), count[k]);
                Check.due(x.group(0, by, k, 2, by), (long) count[k] * due[k]);
                Check.due(x.group(0, by, k, 3, by), due[k]);
                Check.due(x.group(0, by, k, 2, (by + 1) % 3), 7 * count[k]);
            }
            Check.due(x.group(0, by, due.length, 1, by), 0);
        }
    }

    private static void sumsBeyondInt() {
        Check.sentence("2: the sum of a column; 3: its greatest. (Beyond int, and below 0.)");
        Store x = new Store();
        x.begin();
        x.insert(0, 1, Check.MAX, Check.MIN);
        x.insert(0, 1, 1, -1);
        x.insert(0, 2, Check.MIN, -7);
        Check.due(x.group(0, 0, 0, 2, 1), 2147483648L);
        Check.due(x.group(0, 0, 0, 2, 2), -2147483649L);
        Check.due(x.group(0, 0, 0, 3, 2), -1);
        Check.due(x.group(0, 0, 1, 3, 2), -7);
        Check.due(x.group(0, 0, 1, 3, 1), Check.MIN);
    }

    private static void all48() {
        Check.sentence("Of the rows in question those (40 that are there and 8 changed.)");
        Store x = Questions.fortyEight();
        Check.due(x.group(0, 0, 0, 1, 0), 48);
        Check.due(x.group(0, 0, 0, 2, 0), 48L * Check.MAX);
        Check.due(x.group(0, 1, 0, 2, 1), 48L * Check.MIN);
        Check.due(x.group(0, 1, 0, 3, 2), 47);
        Check.due(x.group(0, 2, 47, 0, 0), 47);
        Check.due(x.group(0, 2, 47, 1, 0), 1);
        Check.due(x.group(0, 2, 48, 1, 0), 0);
        Check.due(x.group(-1, 2, 39, 0, 0), 39);
        Check.due(x.group(-1, 2, 40, 1, 0), 0);
    }

    private static void noSuchValue() {
        Check.sentence("0 if there is no such value");
        for (int k : Check.outside(0, 2)) {
            Store x = Questions.someOpen();
            for (int what = 0; what < 4; what++) {
                for (int column = 0; column < 3; column++) {
                    Check.due(x.group(-1, 0, k, what, column), 0);
                    Check.due(x.group(1, 0, k, what, column), 0);
                }
            }
            Check.due(x.group(-1, 0, 0, 0, 0), -4);
            Check.due(x.group(-1, 0, 2, 0, 0), 5);
        }
        Unchanged.by(Scenes::busy, x -> x.group(1, 0, 48, 1, 0), 0);
        Unchanged.by(Scenes::busy, x -> x.group(1, 0, -1, 1, 0), 0);
    }

    private static void noRows() {
        Check.sentence("0 if there is no such value, or likewise. (There are no rows.)");
        Store x = new Store();
        x.begin();
        Store y = Questions.table();
        y.where(1, 1, 0, 9);
        for (int what = 0; what < 4; what++) {
            for (int k = -1; k < 2; k++) {
                Check.due(x.group(-1, 0, k, what, 0), 0);
                Check.due(x.group(0, 0, k, what, 0), 0);
                Check.due(y.group(-1, 0, k, what, 0), 0);
            }
        }
    }

    private static void notOpen() {
        Check.sentence("0 if .. or likewise. (t is not open and not -1.)");
        for (int t : Questions.notOpen()) {
            Store x = Questions.someOpen();
            for (int what = 0; what < 4; what++) {
                for (int column = 0; column < 3; column++) {
                    Check.due(x.group(t, column, 0, what, column), 0);
                }
            }
            Check.due(x.group(-1, 0, 0, 0, 0), -4);
            Check.due(x.group(1, 0, 0, 0, 0), -4);
            Check.due(x.group(3, 0, 0, 0, 0), -4);
        }
        for (int t : Check.outside(-1, 3)) {
            Unchanged.by(Scenes::busy, x -> x.group(t, 0, 0, 1, 0), 0);
        }
        Unchanged.by(Scenes::busy, x -> x.group(2, 0, 0, 1, 0), 0);
    }

    private static void noSuchColumns() {
        Check.sentence("0 if .. or likewise. (There is no such column, to group by or to ask of.)");
        for (int column : Check.outside(0, 2)) {
            Store x = Questions.someOpen();
            for (int what = 0; what < 4; what++) {
                Check.due(x.group(-1, column, 0, what, 0), 0);
                Check.due(x.group(-1, 0, 0, what, column), 0);
                Check.due(x.group(1, column, 0, what, column), 0);
                Check.due(x.group(1, 2, 1, what, column), 0);
            }
            Unchanged.by(Scenes::busy, y -> y.group(1, column, 0, 1, 0), 0);
            Unchanged.by(Scenes::busy, y -> y.group(1, 0, 0, 1, column), 0);
        }
    }

    private static void noSuchWhat() {
        Check.sentence("0 if .. or likewise. (There is no such what.)");
        for (int what : Check.outside(0, 3)) {
            Store x = Questions.someOpen();
            for (int column = 0; column < 3; column++) {
                Check.due(x.group(-1, 0, 0, what, column), 0);
                Check.due(x.group(1, column, 1, what, 0), 0);
            }
            Unchanged.by(Scenes::busy, y -> y.group(1, 0, 0, what, 0), 0);
        }
    }

    private static void thoseThatPass() {
        Check.sentence("Of the rows in question those (Those that pass, and with what t made.)");
        Store x = Questions.table();
        x.where(0, 2, 0, Check.MAX);
        Check.due(x.group(-1, 0, 2, 1, 0), 2);
        x.where(0, 0, 5, 5);
        Check.due(x.group(-1, 0, 0, 0, 0), 5);
        Check.due(x.group(-1, 0, 1, 1, 0), 0);
        x.begin();
        x.begin();
        x.update(0, 1, 0, 5);
        x.remove(0, 0);
        x.insert(0, 5, 9, 9);
        Check.due(x.group(0, 0, 0, 1, 0), 4);
        Check.due(x.group(0, 0, 0, 2, 1), -1 - 2 - 3 + 9);
        Check.due(x.group(0, 0, 0, 3, 1), 9);
        Check.due(x.group(1, 0, 0, 1, 0), 3);
        x.commit(0);
        Check.due(x.group(-1, 0, 0, 1, 0), 4);
        Check.due(x.group(1, 0, 0, 1, 0), 3);
    }
}
