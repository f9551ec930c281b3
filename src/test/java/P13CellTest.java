/** Promise 13: cell. */
public final class P13CellTest {
    public static void main(String[] args) {
        theInt();
        passingOrNot();
        whatItMade();
        asTheyWereAtItsStart();
        noSuchRow();
        notSeen();
        notOpen();
        noSuchColumn();
        Check.end();
    }

    private static void theInt() {
        Check.sentence("The int of a row that is seen .. in a column");
        for (int v : Check.INTS) {
            Store x = new Store();
            x.begin();
            x.insert(0, v, 1, 2);
            x.insert(0, 3, v, 4);
            x.insert(0, 5, 6, v);
            int[][] due = {{v, 1, 2}, {3, v, 4}, {5, 6, v}};
            for (int asker = 0; asker >= -1; asker--) {
                for (int row = 0; row < 3; row++) {
                    for (int column = 0; column < 3; column++) {
                        Check.due(x.cell(asker, row, column), due[row][column]);
                    }
                }
                x.commit(0);
            }
        }
    }

    private static void passingOrNot() {
        Check.sentence("a row that is seen (passing or not)");
        Store x = Questions.table();
        x.begin();
        x.insert(0, 1, 1, 1);
        x.where(0, 0, 100, 200);
        x.where(1, 1, 1, 0);
        Check.due(x.ask(0, 0, 0), 0);
        Check.due(x.cell(-1, 5, 2), 7);
        Check.due(x.cell(0, 5, 2), 7);
        Check.due(x.cell(0, 6, 2), 1);
        x.update(0, 5, 2, 8);
        Check.due(x.cell(0, 5, 2), 8);
        Check.due(x.cell(-1, 5, 2), 7);
    }

    private static void whatItMade() {
        Check.sentence("It SEES, of rows that it changed, what it made of them (Their new ints, or "
                + "that they are gone.)");
        Store x = Scenes.filled(3);
        x.begin();
        x.update(0, 1, 1, 50);
        x.remove(0, 2);
        x.insert(0, 7, 8, 9);
        int[][] due = {{0, 0, 0}, {1, 50, 100}, {}, {7, 8, 9}};
        for (int column = 0; column < 3; column++) {
            Check.due(x.cell(0, 0, column), due[0][column]);
            Check.due(x.cell(0, 1, column), due[1][column]);
            Check.due(x.cell(0, 2, column), Check.NOT_SEEN);
            Check.due(x.cell(0, 3, column), due[3][column]);
        }
    }

    private static void asTheyWereAtItsStart() {
        Check.sentence("of the others those that are there at its START, as they are then.");
        Store x = Scenes.filled(2);
        for (int t = 0; t < 3; t++) {
            Check.due(x.begin(), t);
            Check.due(x.begin(), t + 1);
            Check.due(x.update(t + 1, 0, 0, 10 + t), Store.OK);
            Check.due(x.commit(t + 1), Store.OK);
        }
        Check.due(x.cell(0, 0, 0), 0);
        Check.due(x.cell(1, 0, 0), 10);
        Check.due(x.cell(2, 0, 0), 11);
        Check.due(x.cell(-1, 0, 0), 12);
        x.begin();
        x.remove(3, 0);
        Check.due(x.commit(3), Store.OK);
        Check.due(x.cell(0, 0, 0), 0);
        Check.due(x.cell(1, 0, 0), 10);
        Check.due(x.cell(2, 0, 0), 11);
        Check.due(x.cell(-1, 0, 0), Check.NOT_SEEN);
        x.begin();
        Check.due(x.cell(3, 0, 0), Check.NOT_SEEN);
    }

    private static void noSuchRow() {
        Check.sentence("10000000000 if it is not seen (No such number.)");
        for (int row : Check.outside(0, 5)) {
            Store x = Questions.table();
            x.begin();
            for (int column = 0; column < 3; column++) {
                Check.due(x.cell(-1, row, column), Check.NOT_SEEN);
                Check.due(x.cell(0, row, column), Check.NOT_SEEN);
            }
            Check.due(x.cell(-1, 0, 0), 5);
            Check.due(x.cell(-1, 5, 2), 7);
            Unchanged.by(Questions::table, y -> y.cell(-1, row, 0), Check.NOT_SEEN);
        }
        for (int row : new int[] {1, 3, 14}) {
            for (int far : Check.farFrom(row)) {
                Unchanged.by(Scenes::busy, y -> y.cell(1, far, 0), Check.NOT_SEEN);
            }
        }
        Store x = new Store();
        Check.due(x.cell(-1, 0, 0), Check.NOT_SEEN);
        x.begin();
        Check.due(x.cell(0, 0, 0), Check.NOT_SEEN);
    }

    private static void notSeen() {
        Check.sentence("10000000000 if it is not seen (Another's, a later, a removed, a lost.)");
        Store x = Scenes.filled(3);
        x.begin();
        x.begin();
        int own = x.insert(0, 1, 1, 1);
        Check.due(x.cell(1, own, 0), Check.NOT_SEEN);
        Check.due(x.cell(-1, own, 0), Check.NOT_SEEN);
        x.commit(0);
        Check.due(x.cell(1, own, 0), Check.NOT_SEEN);
        Check.due(x.cell(-1, own, 0), 1);
        x.begin();
        int lost = x.insert(0, 1, 1, 1);
        x.abort(0);
        x.begin();
        Check.due(x.cell(0, lost, 0), Check.NOT_SEEN);
        Check.due(x.cell(-1, lost, 0), Check.NOT_SEEN);
        x.remove(0, 1);
        Check.due(x.cell(0, 1, 0), Check.NOT_SEEN);
        Check.due(x.cell(1, 1, 0), 1);
        Check.due(x.cell(-1, 1, 0), 1);
        x.commit(0);
        Check.due(x.cell(-1, 1, 0), Check.NOT_SEEN);
        Check.due(x.cell(1, 1, 0), 1);
        Unchanged.by(Scenes::busy, y -> y.cell(1, 2, 0), Check.NOT_SEEN);
        Unchanged.by(Scenes::busy, y -> y.cell(1, 13, 0), Check.NOT_SEEN);
        Unchanged.by(Scenes::busy, y -> y.cell(-1, 12, 0), Check.NOT_SEEN);
    }

    private static void notOpen() {
        Check.sentence("10000000000 if .. or likewise. (t is not open and not -1.)");
        for (int t : Questions.notOpen()) {
            Store x = Questions.someOpen();
            for (int column = 0; column < 3; column++) {
                for (int row = 0; row < 8; row++) {
                    Check.due(x.cell(t, row, column), Check.NOT_SEEN);
                }
            }
            Check.due(x.cell(-1, 3, 0), -4);
            Check.due(x.cell(1, 3, 0), -4);
            Check.due(x.cell(3, 3, 0), -4);
        }
        for (int t : Check.outside(-1, 3)) {
            Unchanged.by(Scenes::busy, x -> x.cell(t, 3, 0), Check.NOT_SEEN);
        }
        Unchanged.by(Scenes::busy, x -> x.cell(2, 3, 0), Check.NOT_SEEN);
    }

    private static void noSuchColumn() {
        Check.sentence("10000000000 if .. or likewise. (There is no such column.)");
        for (int column : Check.outside(0, 2)) {
            Store x = Questions.someOpen();
            x.update(1, 0, 0, 9);
            for (int row = 0; row < 6; row++) {
                Check.due(x.cell(-1, row, column), Check.NOT_SEEN);
                Check.due(x.cell(1, row, column), Check.NOT_SEEN);
            }
            Unchanged.by(Scenes::busy, y -> y.cell(1, 3, column), Check.NOT_SEEN);
        }
    }
}
