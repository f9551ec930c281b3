/** Promise 3: insert. */
public final class P03InsertTest {
    public static void main(String[] args) {
        itsNumber();
        anyInts();
        numbersGoOn();
        notOpen();
        noSuchTransaction();
        theEighth();
        theNinth();
        theNinthOfAnyEight();
        roomAgain();
        Check.end();
    }

    private static void itsNumber() {
        Check.sentence("Transaction t inserts a row: its number");
        Store x = new Store();
        x.begin();
        x.begin();
        Check.due(x.insert(0, 1, 2, 3), 0);
        Check.due(x.insert(1, 4, 5, 6), 1);
        Check.due(x.insert(0, 7, 8, 9), 2);
        for (int column = 0; column < 3; column++) {
            Check.due(x.cell(0, 0, column), 1 + column);
            Check.due(x.cell(0, 1, column), Check.NOT_SEEN);
            Check.due(x.cell(0, 2, column), 7 + column);
            Check.due(x.cell(1, 1, column), 4 + column);
            Check.due(x.cell(-1, 0, column), Check.NOT_SEEN);
        }
        Check.state(x, 0, 3, 0, 2, 0);
    }

    private static void anyInts() {
        Check.sentence("Transaction t inserts a row (Of any ints, the least and the greatest too.)");
        for (int t = 0; t < 4; t++) {
            for (int v : Check.INTS) {
                Store x = new Store();
                for (int i = 0; i <= t; i++) {
                    x.begin();
                }
                Check.due(x.insert(t, v, 1, 2), 0);
                Check.due(x.insert(t, 3, v, 4), 1);
                Check.due(x.insert(t, 5, 6, v), 2);
                anyIntsSeen(x, t, v);
                Check.due(x.commit(t), Store.OK);
                anyIntsSeen(x, -1, v);
            }
        }
    }

    private static void anyIntsSeen(Store x, int t, int v) {
        int[][] due = {{v, 1, 2}, {3, v, 4}, {5, 6, v}};
        for (int row = 0; row < 3; row++) {
            for (int column = 0; column < 3; column++) {
                Check.due(x.cell(t, row, column), due[row][column]);
            }
        }
    }

    private static void numbersGoOn() {
        Check.sentence("ROWS have numbers 0, 1, .. in the order in which they were inserted "
                + "(by any transaction, committed or not)");
        Store x = Scenes.filled(1);
        x.begin();
        Check.due(x.insert(0, 1, 1, 1), 1);
        x.abort(0);
        x.begin();
        Check.due(x.insert(0, 1, 1, 1), 2);
        x.remove(0, 2);
        Check.due(x.insert(0, 1, 1, 1), 3);
        Check.due(x.commit(0), Store.OK);
        x.begin();
        x.begin();
        x.update(0, 0, 0, 5);
        x.update(1, 0, 0, 6);
        Check.due(x.insert(1, 1, 1, 1), 4);
        x.commit(0);
        Check.due(x.commit(1), Store.CONFLICT);
        x.begin();
        Check.due(x.insert(0, 1, 1, 1), 5);
        x.remove(0, 3);
        x.commit(0);
        x.begin();
        Check.due(x.insert(0, 1, 1, 1), 6);
        Check.due(x.state(1), 7);
    }

    private static void notOpen() {
        Check.sentence("NONE if it is not open (Not begun, or ended.)");
        Unchanged.by(Scenes::busy, x -> x.insert(2, 3, 30, 300), Store.NONE);
        Unchanged.by(x -> { }, x -> x.insert(0, 1, 2, 3), Store.NONE);
        Unchanged.by(x -> { }, x -> x.insert(3, 1, 2, 3), Store.NONE);
        Unchanged.by(x -> {
            x.begin();
            x.insert(0, 1, 1, 1);
            x.abort(0);
        }, x -> x.insert(0, 1, 2, 3), Store.NONE);
        Unchanged.by(x -> {
            Scenes.overtaken(x);
            x.commit(1);
        }, x -> x.insert(1, 1, 2, 3), Store.NONE);
        Unchanged.by(x -> {
            Scenes.eightChanged(x);
            x.commit(0);
        }, x -> x.insert(0, 1, 2, 3), Store.NONE);
    }

    private static void noSuchTransaction() {
        Check.sentence("NONE if it is not open (TRANSACTIONS 0..3.)");
        for (int t : Check.outside(0, 3)) {
            Unchanged.by(Scenes::busy, x -> x.insert(t, 3, 30, 300), Store.NONE);
        }
        Store x = new Store();
        for (int t = 0; t < 4; t++) {
            x.begin();
        }
        Check.due(x.insert(-1, 1, 2, 3), Store.NONE);
        Check.due(x.insert(4, 1, 2, 3), Store.NONE);
        Check.due(x.insert(0, 1, 2, 3), 0);
        Check.due(x.insert(3, 1, 2, 3), 1);
    }

    private static void theEighth() {
        Check.sentence("FULL if 8 rows are changed. (7 are not 8.)");
        for (int t = 0; t < 4; t++) {
            Store x = new Store();
            for (int i = 0; i <= t; i++) {
                x.begin();
            }
            for (int row = 0; row < 8; row++) {
                Check.due(x.insert(t, row, row, row), row);
            }
            Check.due(x.ask(t, 0, 0), 8);
            Check.due(x.cell(t, 7, 2), 7);
            Check.due(x.commit(t), Store.OK);
            Check.due(x.state(4), 8);
        }
    }

    private static void theNinth() {
        Check.sentence("FULL if 8 rows are changed.");
        for (int i = 0; i < 4; i++) {
            int t = i;
            Unchanged.by(x -> {
                for (int begun = 0; begun < 4; begun++) {
                    x.begin();
                }
                for (int row = 0; row < 8; row++) {
                    x.insert(t, row, row, row);
                }
            }, x -> x.insert(t, 1, 2, 3), Store.FULL);
        }
        Unchanged.by(Scenes::eightChanged, x -> x.insert(0, 1, 2, 3), Store.FULL);
        Store x = new Store();
        x.begin();
        x.begin();
        for (int row = 0; row < 8; row++) {
            x.insert(0, row, row, row);
        }
        Check.due(x.insert(0, 1, 2, 3), Store.FULL);
        Check.due(x.state(1), 8);
        Check.due(x.insert(1, 1, 2, 3), 8);
    }

    private static void theNinthOfAnyEight() {
        Check.sentence("FULL if 8 rows are changed. (Inserted, updated, removed, or both in turn.)");
        for (int kind = 0; kind < 5; kind++) {
            Store x = Scenes.filled(8);
            x.begin();
            for (int i = 0; i < 8; i++) {
                changeOne(x, kind, i);
            }
            Check.due(x.insert(0, 1, 1, 1), Store.FULL);
            Check.due(x.insert(0, 1, 1, 1), Store.FULL);
        }
    }

    private static void changeOne(Store x, int kind, int i) {
        if (kind == 0 || kind == 3) {
            int row = x.insert(0, i, i, i);
            Check.due(row, 8 + i);
            if (kind == 3) {
                Check.due(x.remove(0, row), Store.OK);
            }
        }
        if (kind == 1 || kind == 4) {
            Check.due(x.update(0, i, 0, 5), Store.OK);
            Check.due(x.update(0, i, 1, 6), Store.OK);
        }
        if (kind == 2 || kind == 4) {
            Check.due(x.remove(0, i), Store.OK);
        }
    }

    private static void roomAgain() {
        Check.sentence("FULL if 8 rows are changed. (By this transaction since it began.)");
        Store x = new Store();
        for (int round = 0; round < 3; round++) {
            x.begin();
            for (int i = 0; i < 8; i++) {
                Check.due(x.insert(0, 1, 1, 1), 8 * round + i);
            }
            Check.due(x.insert(0, 1, 1, 1), Store.FULL);
            if (round == 1) {
                Check.due(x.abort(0), true);
            } else {
                Check.due(x.commit(0), Store.OK);
            }
        }
        Check.state(x, 2, 24, 16, 0, 16);
    }
}
