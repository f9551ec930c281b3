/** Promise 12: rank. */
public final class P12RankTest {
    public static void main(String[] args) {
        howManyBefore();
        endsOfInt();
        equalOnes();
        all48();
        noSuchRow();
        notAmongThem();
        notOpen();
        noSuchColumn();
        Check.end();
    }

    private static void howManyBefore() {
        Check.sentence("How many of those in question come before a row in that order");
        Store x = Questions.table();
        int[][] due = {{3, 1, 4, 0, 2, 5}, {3, 4, 1, 2, 5, 0}, {4, 1, 0, 2, 5, 3}};
        for (int column = 0; column < 3; column++) {
            for (int row = 0; row < 6; row++) {
                Check.due(x.rank(-1, column, row), due[column][row]);
            }
        }
    }

    private static void endsOfInt() {
        Check.sentence("How many .. come before a row (From the least int to the greatest.)");
        int[] values = {0, Check.MAX, Check.MIN, -1, 1, Check.MAX - 1, Check.MIN + 1};
        int[] due = {3, 6, 0, 2, 4, 5, 1};
        for (int column = 0; column < 3; column++) {
            Store x = new Store();
            x.begin();
            for (int v : values) {
                x.insert(0, column == 0 ? v : 0, column == 1 ? v : 0, column == 2 ? v : 0);
            }
            for (int row = 0; row < due.length; row++) {
                Check.due(x.rank(0, column, row), due[row]);
                Check.due(x.rank(0, (column + 1) % 3, row), row);
            }
        }
    }

    private static void equalOnes() {
        Check.sentence("come before a row in that order (Equal ones by their numbers.)");
        Store x = Scenes.filled(4);
        for (int row : new int[] {0, 2, 0}) {
            x.begin();
            x.update(0, row, 0, 3);
            x.commit(0);
        }
        x.begin();
        x.update(0, 1, 0, 3);
        x.update(0, 0, 1, 3);
        x.insert(0, 3, 3, 3);
        for (int row = 0; row < 5; row++) {
            Check.due(x.rank(0, 0, row), row);
        }
        x.commit(0);
        for (int row = 0; row < 5; row++) {
            Check.due(x.rank(-1, 0, row), row);
        }
    }

    private static void all48() {
        Check.sentence("How many of those in question (40 that are there and 8 changed.)");
        Store x = Questions.fortyEight();
        for (int row = 0; row < 48; row++) {
            Check.due(x.rank(0, row % 3, row), row);
        }
        Check.due(x.rank(-1, 2, 39), 39);
        Check.due(x.rank(-1, 2, 40), -1);
    }

    private static void noSuchRow() {
        Check.sentence("-1 if it is not among them (No such number.)");
        for (int row : Check.outside(0, 5)) {
            Store x = Questions.table();
            x.begin();
            for (int column = 0; column < 3; column++) {
                Check.due(x.rank(-1, column, row), -1);
                Check.due(x.rank(0, column, row), -1);
            }
            Check.due(x.rank(-1, 0, 0), 3);
            Check.due(x.rank(-1, 0, 5), 5);
            Unchanged.by(Questions::table, y -> y.rank(-1, 0, row), -1);
        }
        for (int row : new int[] {1, 3, 14}) {
            for (int far : Check.farFrom(row)) {
                Unchanged.by(Scenes::busy, y -> y.rank(1, 0, far), -1);
            }
        }
        Store x = new Store();
        Check.due(x.rank(-1, 0, 0), -1);
        x.begin();
        Check.due(x.rank(0, 0, 0), -1);
    }

    private static void notAmongThem() {
        Check.sentence("-1 if it is not among them (Not seen, or seen and not passing.)");
        Store x = Questions.table();
        x.where(0, 0, 3, 5);
        Check.due(x.rank(-1, 0, 3), -1);
        Check.due(x.rank(-1, 0, 1), 0);
        Check.due(x.rank(-1, 0, 5), 4);
        x.begin();
        x.begin();
        x.remove(0, 1);
        x.update(0, 4, 0, 6);
        x.update(0, 3, 0, 4);
        x.insert(0, 5, 0, 0);
        Check.due(x.rank(0, 0, 1), -1);
        Check.due(x.rank(0, 0, 4), -1);
        Check.due(x.rank(0, 0, 3), 0);
        Check.due(x.rank(0, 0, 0), 1);
        Check.due(x.rank(0, 0, 6), 4);
        Check.due(x.rank(1, 0, 6), -1);
        Check.due(x.rank(-1, 0, 6), -1);
        Check.due(x.rank(1, 0, 1), 0);
        x.commit(0);
        Check.due(x.rank(-1, 0, 6), 4);
        Check.due(x.rank(-1, 0, 1), -1);
        Check.due(x.rank(1, 0, 1), 0);
        Check.due(x.rank(1, 0, 6), -1);
        Unchanged.by(Scenes::busy, y -> y.rank(1, 0, 1), 5);
        Unchanged.by(Scenes::busy, y -> y.rank(1, 0, 2), -1);
        Unchanged.by(Scenes::busy, y -> y.rank(1, 0, 11), -1);
    }

    private static void notOpen() {
        Check.sentence("-1 if .. or likewise. (t is not open and not -1.)");
        for (int t : Questions.notOpen()) {
            Store x = Questions.someOpen();
            for (int column = 0; column < 3; column++) {
                for (int row = 0; row < 8; row++) {
                    Check.due(x.rank(t, column, row), -1);
                }
            }
            Check.due(x.rank(-1, 0, 3), 0);
            Check.due(x.rank(1, 0, 3), 0);
            Check.due(x.rank(3, 0, 3), 0);
        }
        for (int t : Check.outside(-1, 3)) {
            Unchanged.by(Scenes::busy, x -> x.rank(t, 0, 3), -1);
        }
        Unchanged.by(Scenes::busy, x -> x.rank(2, 0, 3), -1);
    }

    private static void noSuchColumn() {
        Check.sentence("-1 if .. or likewise. (There is no such column.)");
        for (int column : Check.outside(0, 2)) {
            Store x = Questions.someOpen();
            for (int row = 0; row < 6; row++) {
                Check.due(x.rank(-1, column, row), -1);
                Check.due(x.rank(1, column, row), -1);
            }
            Unchanged.by(Scenes::busy, y -> y.rank(1, column, 3), -1);
        }
    }
}
