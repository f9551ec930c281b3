/** Promise 9: ask. */
public final class P09AskTest {
    public static void main(String[] args) {
        eachWhat();
        oneRow();
        sumsBeyondInt();
        all48();
        different();
        noRows();
        noRowsThatPass();
        notOpen();
        noSuchColumn();
        noSuchWhat();
        ofEachTransaction();
        Check.end();
    }

    private static void eachWhat() {
        Check.sentence("Of the rows in question what 0: how many; 1: the sum of a column; 2: its "
                + "least; 3: its greatest; 4: how many different ones.");
        Store x = Questions.table();
        long[][] due = {
            {6, 17, -4, 5, 3},
            {6, -10, -3, -1, 3},
            {6, 2L * Check.MAX + Check.MIN + 14, Check.MIN, Check.MAX, 4},
        };
        for (int column = 0; column < 3; column++) {
            for (int what = 0; what < 5; what++) {
                Check.due(x.ask(-1, what, column), due[column][what]);
            }
        }
        x.where(0, 0, 3, 3);
        Check.due(x.ask(-1, 0, 2), 2);
        Check.due(x.ask(-1, 1, 1), -2);
        Check.due(x.ask(-1, 2, 0), 3);
        Check.due(x.ask(-1, 3, 1), -1);
        Check.due(x.ask(-1, 4, 1), 1);
    }

    private static void oneRow() {
        Check.sentence("2: its least; 3: its greatest (Of one row, of any int, 0 not being there.)");
        for (int v : Check.INTS) {
            for (int column = 0; column < 3; column++) {
                Store x = new Store();
                x.begin();
                x.insert(0, v, v, v);
                Check.due(x.ask(0, 0, column), 1);
                Check.due(x.ask(0, 1, column), v);
                Check.due(x.ask(0, 2, column), v);
                Check.due(x.ask(0, 3, column), v);
                Check.due(x.ask(0, 4, column), 1);
            }
        }
    }

    private static void sumsBeyondInt() {
        Check.sentence("1: the sum of a column (Beyond the ends of int.)");
        Store x = new Store();
        x.begin();
        x.insert(0, Check.MAX, Check.MIN, Check.MAX);
        Check.due(x.ask(0, 1, 0), 2147483647L);
        x.insert(0, 1, -1, Check.MIN);
        Check.due(x.ask(0, 1, 0), 2147483648L);
        Check.due(x.ask(0, 1, 1), -2147483649L);
        Check.due(x.ask(0, 1, 2), -1);
        x.insert(0, Check.MAX, Check.MIN, Check.MIN);
        Check.due(x.ask(0, 1, 0), 4294967295L);
        Check.due(x.ask(0, 1, 1), -4294967297L);
        Check.due(x.ask(0, 1, 2), -2147483649L);
    }

    private static void all48() {
        Check.sentence("Of the rows in question what 0: how many (40 that are there and 8 changed.)");
        Store x = Questions.fortyEight();
        Check.due(x.ask(0, 0, 0), 48);
        Check.due(x.ask(0, 1, 0), 48L * Check.MAX);
        Check.due(x.ask(0, 1, 1), 48L * Check.MIN);
        Check.due(x.ask(0, 1, 2), 47 * 24);
        Check.due(x.ask(0, 2, 2), 0);
        Check.due(x.ask(0, 3, 2), 47);
        Check.due(x.ask(0, 4, 2), 48);
        Check.due(x.ask(0, 4, 0), 1);
        Check.due(x.ask(-1, 0, 0), 40);
        Check.due(x.ask(-1, 3, 2), 39);
    }

    private static void different() {
        Check.sentence("4: how many different ones.");
        Store x = new Store();
        x.begin();
        int[] values = {0, Check.MIN, Check.MAX, -1, Check.MIN, 0, 65536, -1};
        int[] due = {1, 2, 3, 4, 4, 4, 5, 5};
        for (int i = 0; i < values.length; i++) {
            x.insert(0, values[i], values[i], values[i]);
            for (int column = 0; column < 3; column++) {
                Check.due(x.ask(0, 4, column), due[i]);
            }
        }
    }

    private static void noRows() {
        Check.sentence("0 if there are none (No row at all.)");
        Store x = new Store();
        x.begin();
        Store y = Scenes.filled(2);
        y.begin();
        y.remove(0, 0);
        y.remove(0, 1);
        for (int what = 0; what < 5; what++) {
            for (int column = 0; column < 3; column++) {
                Check.due(x.ask(-1, what, column), 0);
                Check.due(x.ask(0, what, column), 0);
                Check.due(y.ask(0, what, column), 0);
            }
        }
        y.commit(0);
        for (int what = 0; what < 5; what++) {
            Check.due(y.ask(-1, what, 0), 0);
        }
    }

    private static void noRowsThatPass() {
        Check.sentence("0 if there are none (None that passes.)");
        Store x = Questions.table();
        x.begin();
        x.insert(0, 1, 1, 1);
        x.where(0, 0, 6, 9);
        for (int what = 0; what < 5; what++) {
            for (int column = 0; column < 3; column++) {
                Check.due(x.ask(-1, what, column), 0);
                Check.due(x.ask(0, what, column), 0);
            }
        }
    }

    private static void notOpen() {
        Check.sentence("0 if .. t is not open and not -1");
        for (int t : Questions.notOpen()) {
            Store x = Questions.someOpen();
            for (int what = 0; what < 5; what++) {
                for (int column = 0; column < 3; column++) {
                    Check.due(x.ask(t, what, column), 0);
                }
            }
            Check.due(x.ask(-1, 0, 0), 6);
            Check.due(x.ask(1, 0, 0), 6);
            Check.due(x.ask(3, 0, 0), 6);
        }
        for (int t : Check.outside(-1, 3)) {
            Unchanged.by(Scenes::busy, x -> x.ask(t, 0, 0), 0);
        }
        Unchanged.by(Scenes::busy, x -> x.ask(2, 1, 0), 0);
    }

    private static void noSuchColumn() {
        Check.sentence("0 if .. there is no such column");
        for (int column : Check.outside(0, 2)) {
            Store x = Questions.someOpen();
            for (int what = 0; what < 5; what++) {
                Check.due(x.ask(-1, what, column), 0);
                Check.due(x.ask(1, what, column), 0);
            }
            Unchanged.by(Scenes::busy, y -> y.ask(1, 0, column), 0);
        }
    }

    private static void noSuchWhat() {
        Check.sentence("0 if .. there is no such .. what.");
        for (int what : Check.outside(0, 4)) {
            Store x = Questions.someOpen();
            for (int column = 0; column < 3; column++) {
                Check.due(x.ask(-1, what, column), 0);
                Check.due(x.ask(1, what, column), 0);
            }
            Unchanged.by(Scenes::busy, y -> y.ask(1, what, 0), 0);
        }
    }

    private static void ofEachTransaction() {
        Check.sentence("A question is asked of a transaction (0..3) or of no one");
        Store x = Questions.table();
        for (int t = 0; t < 4; t++) {
            x.begin();
        }
        for (int t = 0; t < 4; t++) {
            for (int i = 0; i <= t; i++) {
                x.insert(t, 100 + t, 0, 0);
            }
        }
        for (int t = 0; t < 4; t++) {
            Check.due(x.ask(t, 0, 0), 7 + t);
            Check.due(x.ask(t, 3, 0), 100 + t);
        }
        Check.due(x.ask(-1, 0, 0), 6);
        x.update(2, 3, 0, 50);
        x.remove(2, 0);
        Check.due(x.ask(2, 1, 0), 17 + 3 * 102 + 54 - 5);
        Check.due(x.ask(2, 2, 0), 3);
    }
}
