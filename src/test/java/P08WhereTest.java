/** Promise 8: where. */
public final class P08WhereTest {
    public static void main(String[] args) {
        bothEndsAreIn();
        oneValue();
        emptyRange();
        endsOfInt();
        none();
        noneWhateverItsRange();
        eachConditionAndColumn();
        both();
        theSameColumnTwice();
        becomesAnother();
        noSuchCondition();
        noSuchColumn();
        forEveryQuestion();
        staysBehindOtherCalls();
        Check.end();
    }

    /** Rows 0 .. 5 are there, with -4, 3, 3, 5, 5, 5 in each column. */
    private static Store table() {
        Store x = new Store();
        x.begin();
        for (int v : new int[] {-4, 3, 3, 5, 5, 5}) {
            x.insert(0, v, v, v);
        }
        x.commit(0);
        return x;
    }

    private static void passing(Store x, int k, int column, int least, int most, int due) {
        Check.due(x.where(k, column, least, most), true);
        Check.due(x.ask(-1, 0, 0), due);
    }

    private static void bothEndsAreIn() {
        Check.sentence("Condition k becomes a column's range from least to most");
        for (int k = 0; k < 2; k++) {
            for (int column = 0; column < 3; column++) {
                Store x = table();
                passing(x, k, column, 3, 5, 5);
                passing(x, k, column, 4, 5, 3);
                passing(x, k, column, 2, 5, 5);
                passing(x, k, column, 3, 4, 2);
                passing(x, k, column, 3, 6, 5);
                passing(x, k, column, -4, 4, 3);
                passing(x, k, column, -3, 4, 2);
                passing(x, k, column, 6, 100, 0);
                passing(x, k, column, -100, -5, 0);
            }
        }
    }

    private static void oneValue() {
        Check.sentence("a column's range from least to most (The same int at both ends.)");
        for (int k = 0; k < 2; k++) {
            Store x = table();
            passing(x, k, 0, 5, 5, 3);
            passing(x, k, 0, 4, 4, 0);
            passing(x, k, 0, -4, -4, 1);
        }
    }

    private static void emptyRange() {
        Check.sentence("a column's range from least to most (Least above most: no int is in it.)");
        for (int k = 0; k < 2; k++) {
            Store x = table();
            passing(x, k, 0, 5, 3, 0);
            passing(x, k, 0, 4, 3, 0);
            passing(x, k, 0, Check.MAX, Check.MIN, 0);
            passing(x, k, 0, 0, Check.MIN, 0);
            passing(x, k, 0, Check.MAX, 0, 0);
        }
    }

    private static void endsOfInt() {
        Check.sentence("a column's range from least to most (The least and the greatest int.)");
        int[] ints = {Check.MIN, Check.MIN + 1, -1, 0, 1, Check.MAX - 1, Check.MAX};
        for (int column = 0; column < 3; column++) {
            for (int k = 0; k < 2; k++) {
                Store x = new Store();
                x.begin();
                for (int v : ints) {
                    x.insert(0, column == 0 ? v : 0, column == 1 ? v : 0, column == 2 ? v : 0);
                }
                x.commit(0);
                for (int i = 0; i < ints.length; i++) {
                    for (int j = 0; j < ints.length; j++) {
                        passing(x, k, column, ints[i], ints[j], j < i ? 0 : j - i + 1);
                    }
                }
            }
        }
    }

    private static void none() {
        Check.sentence("or none (column -1): true");
        for (int k = 0; k < 2; k++) {
            Store x = table();
            passing(x, k, -1, 0, 0, 6);
            passing(x, k, 0, 4, 4, 0);
            passing(x, k, -1, 0, 0, 6);
            passing(x, 1 - k, 1, 3, 3, 2);
            passing(x, k, -1, 0, 0, 2);
            passing(x, 1 - k, -1, 0, 0, 6);
        }
    }

    private static void noneWhateverItsRange() {
        Check.sentence("or none (column -1): true (Its least and most say nothing.)");
        for (int k = 0; k < 2; k++) {
            Store x = table();
            passing(x, k, -1, 100, 200, 6);
            passing(x, k, -1, 1, 0, 6);
            passing(x, k, -1, Check.MAX, Check.MIN, 6);
            passing(x, k, -1, Check.MIN, Check.MAX, 6);
        }
    }

    private static void eachConditionAndColumn() {
        Check.sentence("CONDITIONS 0 and 1: a column and a range, or none");
        for (int k = 0; k < 2; k++) {
            for (int column = 0; column < 3; column++) {
                Store x = Scenes.filled(5);
                int step = new int[] {1, 10, 100}[column];
                passing(x, k, column, step, 3 * step, 3);
                Check.due(x.order(-1, 0, 0), 1);
                Check.due(x.order(-1, 0, 2), 3);
                Check.due(x.rank(-1, 0, 4), -1);
            }
        }
    }

    private static void both() {
        Check.sentence("a row PASSES if its ints are in the ranges of both.");
        Store x = Scenes.filled(6);
        passing(x, 0, 0, 1, 4, 4);
        passing(x, 1, 1, 30, 90, 2);
        Check.due(x.order(-1, 0, 0), 3);
        Check.due(x.order(-1, 0, 1), 4);
        passing(x, 1, 2, 0, 100, 1);
        Check.due(x.order(-1, 0, 0), 1);
        passing(x, 1, 2, 500, 500, 0);
        passing(x, 0, -1, 0, 0, 1);
        Check.due(x.order(-1, 0, 0), 5);
    }

    private static void theSameColumnTwice() {
        Check.sentence("a row PASSES if its ints are in the ranges of both. (Of one column.)");
        Store x = Scenes.filled(6);
        passing(x, 0, 0, 1, 4, 4);
        passing(x, 1, 0, 4, 5, 1);
        passing(x, 1, 0, 5, 5, 0);
        passing(x, 1, 0, 1, 4, 4);
        passing(x, 0, 0, 0, 5, 4);
    }

    private static void becomesAnother() {
        Check.sentence("Condition k becomes a column's range (The one before is no more.)");
        Store x = Scenes.filled(6);
        passing(x, 0, 0, 1, 1, 1);
        passing(x, 0, 0, 2, 5, 4);
        passing(x, 0, 1, 0, 10, 2);
        passing(x, 0, 2, 0, 500, 6);
    }

    private static void noSuchCondition() {
        Check.sentence("false, and nothing changes, if k is not 0 or 1");
        for (int k : Check.outside(0, 1)) {
            for (int i = -1; i < 3; i++) {
                int column = i;
                Unchanged.by(Scenes::busy, x -> x.where(k, column, 0, 3) ? 1 : 0, 0);
            }
            Unchanged.by(x -> Scenes.fill(x, 5), x -> x.where(k, 0, 3, 3) ? 1 : 0, 0);
            Unchanged.by(Scenes::busy, x -> x.where(k, 3, 0, 3) ? 1 : 0, 0);
        }
        Store x = Scenes.filled(5);
        Check.due(x.where(0, 0, 1, 3), true);
        Check.due(x.where(1, 0, 1, 3), true);
    }

    private static void noSuchColumn() {
        Check.sentence("false, and nothing changes, if .. column not -1..2.");
        for (int column : Check.outside(-1, 2)) {
            for (int i = 0; i < 2; i++) {
                int k = i;
                Unchanged.by(Scenes::busy, x -> x.where(k, column, 0, 3) ? 1 : 0, 0);
                Unchanged.by(x -> Scenes.fill(x, 5), x -> x.where(k, column, 3, 3) ? 1 : 0, 0);
            }
        }
        Store x = Scenes.filled(5);
        for (int k = 0; k < 2; k++) {
            Check.due(x.where(k, 3, 1, 3), false);
            Check.due(x.where(k, -2, 1, 3), false);
            Check.due(x.where(k, 2, 1, 3), true);
            Check.due(x.where(k, -1, 1, 3), true);
        }
    }

    private static void forEveryQuestion() {
        Check.sentence("A question .. is about the rows seen that pass.");
        Store x = Scenes.filled(6);
        x.where(0, 0, 2, 4);
        x.begin();
        x.begin();
        x.insert(0, 4, 5, 6);
        x.insert(0, 5, 5, 6);
        x.update(1, 2, 0, 1);
        Check.due(x.ask(-1, 0, 0), 3);
        Check.due(x.ask(0, 0, 0), 4);
        Check.due(x.ask(1, 0, 0), 2);
        Check.due(x.ask(-1, 1, 1), 90);
        Check.due(x.group(-1, 0, 0, 0, 0), 2);
        Check.due(x.group(0, 0, 2, 1, 0), 2);
        Check.due(x.order(0, 0, 3), 6);
        Check.due(x.rank(1, 0, 2), -1);
        Check.due(x.cell(1, 2, 0), 1);
        Check.state(x, 1, 8, 6, 2, 6);
    }

    private static void staysBehindOtherCalls() {
        Check.sentence("Condition k becomes a column's range (Until where is called again.)");
        Store x = Scenes.filled(6);
        x.where(0, 0, 2, 4);
        x.begin();
        x.insert(0, 4, 5, 6);
        x.commit(0);
        Check.due(x.ask(-1, 0, 0), 4);
        x.begin();
        x.remove(0, 3);
        x.abort(0);
        Check.due(x.ask(-1, 0, 0), 4);
        x.pack();
        Check.due(x.ask(-1, 0, 0), 4);
        x.begin();
        Check.due(x.ask(0, 0, 0), 4);
    }
}
