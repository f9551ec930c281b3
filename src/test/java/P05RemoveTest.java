/** Promise 5: remove. */
public final class P05RemoveTest {
    public static void main(String[] args) {
        removes();
        anyRowThatIsSeen();
        notOpen();
        noSuchTransaction();
        noSuchRow();
        rowsNotSeen();
        theEighth();
        theNinth();
        amongTheEight();
        insertedStaysAmongThoseChanged();
        Check.end();
    }

    private static void removes() {
        Check.sentence("It removes a row: OK");
        Store x = Scenes.filled(3);
        x.begin();
        x.begin();
        Check.due(x.remove(0, 1), Store.OK);
        for (int column = 0; column < 3; column++) {
            Check.due(x.cell(0, 1, column), Check.NOT_SEEN);
        }
        Check.due(x.ask(0, 0, 0), 2);
        Check.due(x.order(0, 0, 1), 2);
        Check.due(x.cell(1, 1, 0), 1);
        Check.due(x.cell(-1, 1, 0), 1);
        Check.state(x, 1, 3, 3, 2, 3);
        Check.due(x.commit(0), Store.OK);
        Check.due(x.cell(-1, 1, 0), Check.NOT_SEEN);
        Check.due(x.cell(1, 1, 0), 1);
        Check.state(x, 2, 3, 3, 1, 2);
        x.abort(1);
        Check.state(x, 2, 3, 2, 0, 2);
    }

    private static void anyRowThatIsSeen() {
        Check.sentence("It removes a row: OK (Each that it sees, the last one too.)");
        Store x = Scenes.filled(4);
        x.begin();
        x.begin();
        int own = x.insert(0, 5, 5, 5);
        x.update(0, 1, 0, 7);
        x.remove(1, 3);
        x.update(1, 2, 0, 8);
        Check.due(x.commit(1), Store.OK);
        x.where(0, 0, 1000, 2000);
        Check.due(x.remove(0, own), Store.OK);
        Check.due(x.remove(0, 0), Store.OK);
        Check.due(x.remove(0, 1), Store.OK);
        Check.due(x.remove(0, 2), Store.OK);
        Check.due(x.remove(0, 3), Store.OK);
        x.where(0, -1, 0, 0);
        Check.due(x.ask(0, 0, 0), 0);
        Check.due(x.ask(-1, 0, 0), 3);
    }

    private static void notOpen() {
        Check.sentence("OK, NONE, FULL likewise. (NONE if it is not open: not begun, or ended.)");
        Unchanged.by(Scenes::busy, x -> x.remove(2, 4), Store.NONE);
        Unchanged.by(x -> Scenes.fill(x, 3), x -> x.remove(0, 1), Store.NONE);
        Unchanged.by(x -> {
            Scenes.eightChanged(x);
            x.abort(0);
        }, x -> x.remove(0, 1), Store.NONE);
        Unchanged.by(x -> {
            Scenes.eightChanged(x);
            x.commit(0);
        }, x -> x.remove(0, 1), Store.NONE);
        Unchanged.by(x -> {
            Scenes.overtaken(x);
            x.commit(1);
        }, x -> x.remove(1, 0), Store.NONE);
    }

    private static void noSuchTransaction() {
        Check.sentence("OK, NONE, FULL likewise. (NONE if it is not open: TRANSACTIONS 0..3.)");
        for (int t : Check.outside(0, 3)) {
            Unchanged.by(Scenes::busy, x -> x.remove(t, 4), Store.NONE);
        }
        Store x = Scenes.filled(3);
        for (int t = 0; t < 4; t++) {
            x.begin();
        }
        Check.due(x.remove(-1, 1), Store.NONE);
        Check.due(x.remove(4, 1), Store.NONE);
        Check.due(x.remove(0, 1), Store.OK);
        Check.due(x.remove(3, 1), Store.OK);
    }

    private static void noSuchRow() {
        Check.sentence("OK, NONE, FULL likewise. (NONE if it does not see the row: no such number.)");
        Store full = new Store();
        Scenes.busy(full);
        int rows = full.state(1);
        for (int row : Check.outside(0, rows - 1)) {
            Unchanged.by(Scenes::busy, x -> x.remove(1, row), Store.NONE);
        }
        for (int row : new int[] {1, 3, 14}) {
            for (int far : Check.farFrom(row)) {
                Unchanged.by(Scenes::busy, x -> x.remove(1, far), Store.NONE);
            }
        }
        Store x = new Store();
        x.begin();
        Check.due(x.remove(0, 0), Store.NONE);
        x.insert(0, 1, 1, 1);
        Check.due(x.remove(0, 1), Store.NONE);
        Check.due(x.remove(0, -1), Store.NONE);
        Check.due(x.remove(0, 0), Store.OK);
    }

    private static void rowsNotSeen() {
        Check.sentence("OK, NONE, FULL likewise. (NONE if it does not see the row: another's, a "
                + "later, a removed, a lost.)");
        Unchanged.by(Scenes::busy, x -> x.remove(0, 14), Store.NONE);
        Unchanged.by(Scenes::busy, x -> x.remove(1, 2), Store.NONE);
        Unchanged.by(Scenes::busy, x -> x.remove(3, 15), Store.NONE);
        Unchanged.by(x -> {
            Scenes.fill(x, 2);
            x.begin();
            x.begin();
            x.insert(1, 1, 1, 1);
            x.commit(1);
        }, x -> x.remove(0, 2), Store.NONE);
        Unchanged.by(x -> {
            Scenes.fill(x, 2);
            x.begin();
            x.remove(0, 1);
            x.commit(0);
            x.begin();
        }, x -> x.remove(0, 1), Store.NONE);
        Unchanged.by(x -> {
            x.begin();
            x.insert(0, 1, 1, 1);
            x.abort(0);
            x.begin();
        }, x -> x.remove(0, 0), Store.NONE);
        Unchanged.by(x -> {
            Scenes.overtaken(x);
            x.commit(1);
            x.begin();
        }, x -> x.remove(0, 4), Store.NONE);
        Unchanged.by(x -> {
            Scenes.fill(x, 2);
            x.begin();
            x.update(0, 1, 0, 5);
            x.remove(0, 1);
        }, x -> x.remove(0, 1), Store.NONE);
    }

    private static void theEighth() {
        Check.sentence("OK, NONE, FULL likewise. (FULL if 8 others are changed: 7 are not 8.)");
        for (int inserted = 0; inserted < 8; inserted++) {
            Store x = Scenes.filled(10);
            x.begin();
            for (int i = 0; i < inserted; i++) {
                x.insert(0, i, i, i);
            }
            for (int row = inserted; row < 7; row++) {
                Check.due(x.remove(0, row), Store.OK);
            }
            Check.due(x.remove(0, 9), Store.OK);
            Check.due(x.cell(0, 9, 0), Check.NOT_SEEN);
            Check.due(x.remove(0, 8), Store.FULL);
            Check.due(x.commit(0), Store.OK);
            Check.due(x.cell(-1, 9, 0), Check.NOT_SEEN);
            Check.due(x.cell(-1, 8, 0), 8);
        }
    }

    private static void theNinth() {
        Check.sentence("OK, NONE, FULL likewise. (FULL if 8 others are changed.)");
        Unchanged.by(Scenes::eightChanged, x -> x.remove(0, 9), Store.FULL);
        Unchanged.by(Scenes::eightChanged, x -> x.remove(0, 5), Store.FULL);
        for (int i = 0; i < 4; i++) {
            int t = i;
            Unchanged.by(x -> {
                Scenes.fill(x, 9);
                for (int begun = 0; begun < 4; begun++) {
                    x.begin();
                }
                for (int row = 1; row < 9; row++) {
                    x.remove(t, row);
                }
            }, x -> x.remove(t, 0), Store.FULL);
        }
    }

    private static void amongTheEight() {
        Check.sentence("OK, NONE, FULL likewise. (One among the 8 can be removed.)");
        Store x = new Store();
        Scenes.eightChanged(x);
        for (int row : new int[] {0, 1, 2, 10, 11, 12}) {
            Check.due(x.remove(0, row), Store.OK);
            Check.due(x.cell(0, row, 0), Check.NOT_SEEN);
            Check.due(x.remove(0, row), Store.NONE);
        }
        Check.due(x.ask(0, 0, 0), 5);
        Check.due(x.commit(0), Store.OK);
        Check.state(x, 3, 13, 5, 0, 5);
    }

    private static void insertedStaysAmongThoseChanged() {
        Check.sentence("(A row that it inserted stays among those changed.)");
        Store x = Scenes.filled(2);
        x.begin();
        for (int i = 0; i < 8; i++) {
            int row = x.insert(0, i, i, i);
            Check.due(row, 2 + i);
            Check.due(x.remove(0, row), Store.OK);
        }
        Check.due(x.ask(0, 0, 0), 2);
        Check.due(x.insert(0, 1, 1, 1), Store.FULL);
        Check.due(x.update(0, 1, 0, 1), Store.FULL);
        Check.due(x.remove(0, 1), Store.FULL);
        Check.due(x.update(0, 9, 0, 1), Store.NONE);
        Check.due(x.remove(0, 9), Store.NONE);
        Check.due(x.commit(0), Store.OK);
        Check.state(x, 1, 10, 2, 0, 2);
        x.begin();
        for (int i = 0; i < 7; i++) {
            x.insert(0, i, i, i);
        }
        x.remove(0, 10);
        Check.due(x.insert(0, 1, 1, 1), 17);
        Check.due(x.insert(0, 1, 1, 1), Store.FULL);
        Check.due(x.commit(0), Store.OK);
        Check.state(x, 2, 18, 9, 0, 9);
    }
}
