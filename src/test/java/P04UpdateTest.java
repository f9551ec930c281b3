/** Promise 4: update. */
public final class P04UpdateTest {
    public static void main(String[] args) {
        setsAColumn();
        anyInt();
        toTheSameInt();
        anyRowThatIsSeen();
        notOpen();
        noSuchTransaction();
        noSuchRow();
        rowsNotSeen();
        noSuchColumn();
        theEighth();
        theNinth();
        amongTheEight();
        Check.end();
    }

    private static void setsAColumn() {
        Check.sentence("It sets a column of a row to v: OK");
        for (int column = 0; column < 3; column++) {
            Store x = Scenes.filled(3);
            x.begin();
            x.begin();
            Check.due(x.update(0, 1, column, 77), Store.OK);
            for (int other = 0; other < 3; other++) {
                long old = new long[] {1, 10, 100}[other];
                Check.due(x.cell(0, 1, other), other == column ? 77 : old);
                Check.due(x.cell(1, 1, other), old);
                Check.due(x.cell(-1, 1, other), old);
            }
            Check.due(x.cell(0, 0, column), 0);
            Check.due(x.update(0, 1, column, 78), Store.OK);
            Check.due(x.cell(0, 1, column), 78);
            Check.due(x.update(0, 1, (column + 1) % 3, 79), Store.OK);
            Check.due(x.cell(0, 1, column), 78);
            Check.due(x.cell(0, 1, (column + 1) % 3), 79);
            Check.due(x.commit(0), Store.OK);
            Check.due(x.cell(-1, 1, column), 78);
            Check.due(x.cell(-1, 1, (column + 1) % 3), 79);
            Check.due(x.cell(-1, 1, (column + 2) % 3), new long[] {1, 10, 100}[(column + 2) % 3]);
            Check.state(x, 2, 3, 4, 1, 3);
        }
    }

    private static void anyInt() {
        Check.sentence("It sets a column of a row to v: OK (v is any int.)");
        for (int v : Check.INTS) {
            for (int column = 0; column < 3; column++) {
                Store x = Scenes.filled(2);
                x.begin();
                int own = x.insert(0, 5, 5, 5);
                Check.due(x.update(0, 1, column, v), Store.OK);
                Check.due(x.update(0, own, column, v), Store.OK);
                Check.due(x.cell(0, 1, column), v);
                Check.due(x.cell(0, own, column), v);
                x.commit(0);
                Check.due(x.cell(-1, 1, column), v);
                Check.due(x.cell(-1, own, column), v);
                Check.due(x.cell(-1, own, (column + 1) % 3), 5);
            }
        }
    }

    private static void toTheSameInt() {
        Check.sentence("CHANGES: of at most 8 rows that it inserted, updated or removed their new "
                + "ints (An update to the int that stood there is one.)");
        Store x = Scenes.filled(9);
        x.begin();
        x.begin();
        for (int row = 0; row < 8; row++) {
            Check.due(x.update(0, row, 0, row), Store.OK);
        }
        Check.due(x.update(0, 8, 0, 8), Store.FULL);
        Check.due(x.update(1, 7, 1, 1), Store.OK);
        Check.due(x.commit(0), Store.OK);
        Check.due(x.state(0), 3);
        Check.due(x.commit(1), Store.CONFLICT);
    }

    private static void anyRowThatIsSeen() {
        Check.sentence("It sets a column of a row to v: OK (Of each row that it sees.)");
        Store x = Scenes.filled(4);
        x.begin();
        x.begin();
        int own = x.insert(0, 5, 5, 5);
        x.update(1, 0, 0, 6);
        x.remove(1, 3);
        Check.due(x.commit(1), Store.OK);
        x.where(0, 0, 1000, 2000);
        x.where(1, 1, 1, 0);
        Check.due(x.update(0, own, 0, 9), Store.OK);
        Check.due(x.update(0, 0, 0, 9), Store.OK);
        Check.due(x.update(0, 1, 0, 9), Store.OK);
        Check.due(x.update(0, 3, 0, 9), Store.OK);
        Check.due(x.cell(0, 3, 0), 9);
        Check.due(x.cell(0, 3, 1), 30);
        Check.due(x.cell(-1, 3, 0), Check.NOT_SEEN);
    }

    private static void notOpen() {
        Check.sentence("NONE if it is not open (Not begun, or ended.)");
        Unchanged.by(Scenes::busy, x -> x.update(2, 4, 0, 9), Store.NONE);
        Unchanged.by(x -> Scenes.fill(x, 3), x -> x.update(0, 1, 0, 9), Store.NONE);
        Unchanged.by(x -> {
            Scenes.eightChanged(x);
            x.abort(0);
        }, x -> x.update(0, 1, 0, 9), Store.NONE);
        Unchanged.by(x -> {
            Scenes.eightChanged(x);
            x.commit(0);
        }, x -> x.update(0, 1, 0, 9), Store.NONE);
        Unchanged.by(x -> {
            Scenes.overtaken(x);
            x.commit(1);
        }, x -> x.update(1, 0, 0, 9), Store.NONE);
    }

    private static void noSuchTransaction() {
        Check.sentence("NONE if it is not open (TRANSACTIONS 0..3.)");
        for (int t : Check.outside(0, 3)) {
            Unchanged.by(Scenes::busy, x -> x.update(t, 4, 0, 9), Store.NONE);
        }
        Store x = Scenes.filled(3);
        for (int t = 0; t < 4; t++) {
            x.begin();
        }
        Check.due(x.update(-1, 1, 0, 5), Store.NONE);
        Check.due(x.update(4, 1, 0, 5), Store.NONE);
        Check.due(x.update(0, 1, 0, 5), Store.OK);
        Check.due(x.update(3, 1, 0, 5), Store.OK);
    }

    private static void noSuchRow() {
        Check.sentence("NONE if it .. does not see the row (No such number.)");
        Store full = new Store();
        Scenes.busy(full);
        int rows = full.state(1);
        for (int row : Check.outside(0, rows - 1)) {
            Unchanged.by(Scenes::busy, x -> x.update(1, row, 0, 9), Store.NONE);
        }
        for (int row : new int[] {1, 3, 14}) {
            for (int far : Check.farFrom(row)) {
                Unchanged.by(Scenes::busy, x -> x.update(1, far, 0, 9), Store.NONE);
            }
        }
        Store x = new Store();
        x.begin();
        Check.due(x.update(0, 0, 0, 9), Store.NONE);
        x.insert(0, 1, 1, 1);
        Check.due(x.update(0, 0, 0, 9), Store.OK);
        Check.due(x.update(0, 1, 0, 9), Store.NONE);
        Check.due(x.update(0, -1, 0, 9), Store.NONE);
    }

    private static void rowsNotSeen() {
        Check.sentence("NONE if it .. does not see the row (Another's, a later, a removed, a lost.)");
        Unchanged.by(Scenes::busy, x -> x.update(0, 14, 0, 9), Store.NONE);
        Unchanged.by(Scenes::busy, x -> x.update(1, 2, 0, 9), Store.NONE);
        Unchanged.by(Scenes::busy, x -> x.update(3, 15, 0, 9), Store.NONE);
        Unchanged.by(x -> {
            Scenes.fill(x, 2);
            x.begin();
            x.begin();
            x.insert(1, 1, 1, 1);
            x.commit(1);
        }, x -> x.update(0, 2, 0, 9), Store.NONE);
        Unchanged.by(x -> {
            Scenes.fill(x, 2);
            x.begin();
            x.remove(0, 1);
            x.commit(0);
            x.begin();
        }, x -> x.update(0, 1, 0, 9), Store.NONE);
        Unchanged.by(x -> {
            x.begin();
            x.insert(0, 1, 1, 1);
            x.abort(0);
            x.begin();
        }, x -> x.update(0, 0, 0, 9), Store.NONE);
        Unchanged.by(x -> {
            Scenes.overtaken(x);
            x.commit(1);
            x.begin();
        }, x -> x.update(0, 4, 0, 9), Store.NONE);
        Unchanged.by(x -> {
            Scenes.fill(x, 2);
            x.begin();
            x.update(0, 1, 0, 5);
            x.remove(0, 1);
        }, x -> x.update(0, 1, 0, 9), Store.NONE);
    }

    private static void noSuchColumn() {
        Check.sentence("NONE if .. there is no such column");
        for (int column : Check.outside(0, 2)) {
            Unchanged.by(Scenes::busy, x -> x.update(1, 4, column, 9), Store.NONE);
            Unchanged.by(Scenes::busy, x -> x.update(1, 1, column, 9), Store.NONE);
            Unchanged.by(Scenes::busy, x -> x.update(1, 14, column, 9), Store.NONE);
            Unchanged.by(Scenes::busy, x -> x.update(3, 4, column, 9), Store.NONE);
        }
        Store x = Scenes.filled(2);
        x.begin();
        Check.due(x.update(0, 1, 3, 9), Store.NONE);
        Check.due(x.update(0, 1, -1, 9), Store.NONE);
        Check.due(x.commit(0), Store.OK);
        Check.due(x.state(0), 1);
        x.begin();
        Check.due(x.update(0, 1, 2, 9), Store.OK);
        Check.due(x.update(0, 1, 0, 9), Store.OK);
    }

    private static void theEighth() {
        Check.sentence("FULL if the row is not among those changed and these are 8. (7 are not 8.)");
        for (int inserted = 0; inserted < 8; inserted++) {
            Store x = Scenes.filled(10);
            x.begin();
            for (int i = 0; i < inserted; i++) {
                x.insert(0, i, i, i);
            }
            for (int row = inserted; row < 7; row++) {
                Check.due(x.update(0, row, 0, 50), Store.OK);
            }
            Check.due(x.update(0, 9, 0, 51), Store.OK);
            Check.due(x.cell(0, 9, 0), 51);
            Check.due(x.update(0, 8, 0, 52), Store.FULL);
            Check.due(x.commit(0), Store.OK);
            Check.due(x.cell(-1, 9, 0), 51);
            Check.due(x.cell(-1, 8, 0), 8);
        }
    }

    private static void theNinth() {
        Check.sentence("FULL if the row is not among those changed and these are 8.");
        Unchanged.by(Scenes::eightChanged, x -> x.update(0, 9, 0, 9), Store.FULL);
        Unchanged.by(Scenes::eightChanged, x -> x.update(0, 5, 2, 500), Store.FULL);
        for (int i = 0; i < 4; i++) {
            int t = i;
            Unchanged.by(x -> {
                Scenes.fill(x, 9);
                for (int begun = 0; begun < 4; begun++) {
                    x.begin();
                }
                for (int row = 1; row < 9; row++) {
                    x.update(t, row, 1, row);
                }
            }, x -> x.update(t, 0, 0, 9), Store.FULL);
        }
    }

    private static void amongTheEight() {
        Check.sentence("FULL if the row is not among those changed (One among the 8 can be set.)");
        Store x = new Store();
        Scenes.eightChanged(x);
        for (int row : new int[] {0, 1, 2, 10, 11, 12}) {
            for (int column = 0; column < 3; column++) {
                Check.due(x.update(0, row, column, 90 + row), Store.OK);
                Check.due(x.cell(0, row, column), 90 + row);
            }
        }
        Check.due(x.update(0, 3, 0, 1), Store.NONE);
        Check.due(x.commit(0), Store.OK);
        Check.due(x.cell(-1, 12, 2), 102);
        Check.state(x, 3, 13, 11, 0, 11);
    }
}
