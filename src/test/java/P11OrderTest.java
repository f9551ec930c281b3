/** Promise 11: order. */
public final class P11OrderTest {
    public static void main(String[] args) {
        ascending();
        endsOfInt();
        equalOnesByTheirNumbers();
        equalOnesOfAnyAge();
        all48();
        noSuchPlace();
        noRows();
        notOpen();
        noSuchColumn();
        thoseThatPass();
        Check.end();
    }

    private static void ascending() {
        Check.sentence("The row that is number k (0 first) of those in question in ascending order "
                + "of a column");
        Store x = Questions.table();
        int[][] due = {{3, 1, 4, 0, 2, 5}, {5, 2, 3, 0, 1, 4}, {2, 1, 3, 5, 0, 4}};
        for (int column = 0; column < 3; column++) {
            for (int k = 0; k < 6; k++) {
                Check.due(x.order(-1, column, k), due[column][k]);
            }
        }
    }

    private static void endsOfInt() {
        Check.sentence("in ascending order of a column (From the least int to the greatest.)");
        int[] values = {0, Check.MAX, Check.MIN, -1, 1, Check.MAX - 1, Check.MIN + 1};
        int[] due = {2, 6, 3, 0, 4, 5, 1};
        for (int column = 0; column < 3; column++) {
            Store x = new Store();
            x.begin();
            for (int v : values) {
                x.insert(0, column == 0 ? v : 0, column == 1 ? v : 0, column == 2 ? v : 0);
            }
            for (int k = 0; k < due.length; k++) {
                Check.due(x.order(0, column, k), due[k]);
                Check.due(x.order(0, (column + 1) % 3, k), k);
            }
        }
    }

    private static void equalOnesByTheirNumbers() {
        Check.sentence("of equal ones by their numbers");
        for (int v : new int[] {Check.MIN, 0, Check.MAX}) {
            Store x = new Store();
            x.begin();
            x.begin();
            for (int i = 0; i < 8; i++) {
                Check.due(x.insert(1 - i % 2, v, v, v), i);
            }
            x.commit(0);
            x.commit(1);
            for (int k = 0; k < 8; k++) {
                Check.due(x.order(-1, k % 3, k), k);
            }
        }
    }

    private static void equalOnesOfAnyAge() {
        Check.sentence("of equal ones by their numbers (However often they were changed.)");
        Store x = Scenes.filled(4);
        for (int row : new int[] {0, 2, 0}) {
            x.begin();
            x.update(0, row, 0, 3);
            x.commit(0);
        }
        x.begin();
        x.update(0, 1, 0, 3);
        x.update(0, 0, 1, 3);
        x.insert(0, 3, 3, 3);
        for (int k = 0; k < 5; k++) {
            Check.due(x.order(0, 0, k), k);
        }
        x.commit(0);
        for (int k = 0; k < 5; k++) {
            Check.due(x.order(-1, 0, k), k);
        }
    }

    private static void all48() {
        Check.sentence("The row that is number k (0 first) (40 that are there and 8 changed.)");
        Store x = Questions.fortyEight();
        for (int k = 0; k < 48; k++) {
            Check.due(x.order(0, k % 3, k), k);
        }
        Check.due(x.order(0, 2, 48), -1);
        Check.due(x.order(-1, 2, 39), 39);
        Check.due(x.order(-1, 2, 40), -1);
    }

    private static void noSuchPlace() {
        Check.sentence("-1 if there is none");
        for (int k : Check.outside(0, 5)) {
            Store x = Questions.someOpen();
            for (int column = 0; column < 3; column++) {
                Check.due(x.order(-1, column, k), -1);
                Check.due(x.order(1, column, k), -1);
            }
            Check.due(x.order(-1, 0, 0), 3);
            Check.due(x.order(-1, 0, 5), 5);
        }
        Unchanged.by(Scenes::busy, x -> x.order(1, 0, 48), -1);
        Unchanged.by(Scenes::busy, x -> x.order(1, 0, -1), -1);
    }

    private static void noRows() {
        Check.sentence("-1 if there is none (No rows, or none that passes.)");
        Store x = new Store();
        x.begin();
        Store y = Questions.table();
        y.where(0, 0, 6, 9);
        for (int k = -1; k < 3; k++) {
            Check.due(x.order(-1, 0, k), -1);
            Check.due(x.order(0, 0, k), -1);
            Check.due(y.order(-1, 0, k), -1);
        }
    }

    private static void notOpen() {
        Check.sentence("-1 if .. or likewise. (t is not open and not -1.)");
        for (int t : Questions.notOpen()) {
            Store x = Questions.someOpen();
            for (int column = 0; column < 3; column++) {
                Check.due(x.order(t, column, 0), -1);
            }
            Check.due(x.order(-1, 0, 0), 3);
            Check.due(x.order(1, 0, 0), 3);
            Check.due(x.order(3, 0, 0), 3);
        }
        for (int t : Check.outside(-1, 3)) {
            Unchanged.by(Scenes::busy, x -> x.order(t, 0, 0), -1);
        }
        Unchanged.by(Scenes::busy, x -> x.order(2, 0, 0), -1);
    }

    private static void noSuchColumn() {
        Check.sentence("-1 if .. or likewise. (There is no such column.)");
        for (int column : Check.outside(0, 2)) {
            Store x = Questions.someOpen();
            for (int k = 0; k < 3; k++) {
                Check.due(x.order(-1, column, k), -1);
                Check.due(x.order(1, column, k), -1);
            }
            Unchanged.by(Scenes::busy, y -> y.order(1, column, 0), -1);
        }
    }

    private static void thoseThatPass() {
        Check.sentence("of those in question (Those that pass, and with what t made of them.)");
        Store x = Questions.table();
        x.where(0, 0, 3, 5);
        Check.due(x.order(-1, 0, 0), 1);
        Check.due(x.order(-1, 0, 4), 5);
        Check.due(x.order(-1, 0, 5), -1);
        x.begin();
        x.begin();
        x.update(0, 5, 0, 3);
        x.remove(0, 1);
        x.insert(0, 4, 0, 0);
        int[] due = {4, 5, 6, 0, 2, -1};
        for (int k = 0; k < due.length; k++) {
            Check.due(x.order(0, 0, k), due[k]);
        }
        x.commit(0);
        for (int k = 0; k < due.length; k++) {
            Check.due(x.order(-1, 0, k), due[k]);
        }
        Check.due(x.order(1, 0, 0), 1);
    }
}
