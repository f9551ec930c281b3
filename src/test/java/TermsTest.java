/** The document's section 'Terms': what its sentences say of bounds. */
public final class TermsTest {
    public static void main(String[] args) {
        rowNumbers();
        columns();
        versionEndsBeforeAnother();
        versionHoldsForEver();
        clockAtFirst();
        thereAtATime();
        transactions();
        start();
        atMostEightChanges();
        sees();
        seesNoLaterRows();
        insertedAndRemovedAreNoChanges();
        conflictOfEachKind();
        noConflictAtItsStart();
        noConflictOfRowsNotChanged();
        noConflictOfInsertedRows();
        noConflictWithLostChanges();
        conflictBehindManyVersions();
        conflictOfTheLastOfEight();
        clockGoesUpByOne();
        liveAtTheClock();
        liveAtAStart();
        atMostForty();
        conditions();
        askedOfNoOne();
        Check.end();
    }

    private static void rowNumbers() {
        Check.sentence("ROWS have numbers 0, 1, .. in the order in which they were inserted (by any "
                + "transaction, committed or not)");
        Store x = new Store();
        for (int t = 0; t < 4; t++) {
            x.begin();
        }
        int row = 0;
        for (int i = 0; i < 8; i++) {
            for (int t = 3; t >= 0; t--) {
                Check.due(x.insert(t, i, t, row), row);
                row++;
            }
        }
        Check.due(x.insert(2, 0, 0, 0), Store.FULL);
        x.abort(0);
        Check.due(x.begin(), 0);
        Check.due(x.insert(0, 0, 0, 0), 32);
        Check.due(x.commit(3), Store.OK);
        Check.due(x.begin(), 3);
        Check.due(x.insert(3, 0, 0, 0), 33);
        Check.due(x.insert(-1, 0, 0, 0), Store.NONE);
        Check.due(x.insert(3, 0, 0, 0), 34);
        Check.due(x.state(1), 35);
        for (int i = 0; i < 8; i++) {
            Check.due(x.cell(-1, 4 * i, 2), 4 * i);
            Check.due(x.cell(1, 4 * i + 2, 2), 4 * i + 2);
        }
    }

    private static void columns() {
        Check.sentence("three ints, the COLUMNS 0..2.");
        Store x = new Store();
        x.begin();
        x.insert(0, 10, 20, 30);
        for (int column = 0; column < 3; column++) {
            long v = 10 * (column + 1);
            Check.due(x.cell(0, 0, column), v);
            Check.due(x.ask(0, 1, column), v);
            Check.due(x.group(0, column, 0, 2, column), v);
            Check.due(x.order(0, column, 0), 0);
            Check.due(x.rank(0, column, 0), 0);
            Check.due(x.where(0, column, 10 * column, 10 * column + 10), true);
            Check.due(x.update(0, 0, column, (int) v), Store.OK);
        }
        for (int column : new int[] {-1, 3}) {
            Check.due(x.cell(0, 0, column), Check.NOT_SEEN);
            Check.due(x.ask(0, 1, column), 0);
            Check.due(x.group(0, column, 0, 2, 0), 0);
            Check.due(x.group(0, 0, 0, 2, column), 0);
            Check.due(x.order(0, column, 0), -1);
            Check.due(x.rank(0, column, 0), -1);
            Check.due(x.where(1, column, 50, 60), column == -1);
            Check.due(x.update(0, 0, column, 9), Store.NONE);
        }
        for (int column = 0; column < 3; column++) {
            Check.due(x.cell(0, 0, column), 10 * (column + 1));
        }
    }

    private static void versionEndsBeforeAnother() {
        Check.sentence("A VERSION of a row is its three ints from one TIME on, up to and without "
                + "another one");
        Store x = Scenes.filled(2);
        Check.due(x.begin(), 0);
        Check.due(x.begin(), 1);
        x.update(0, 0, 0, 5);
        x.remove(0, 1);
        Check.due(x.commit(0), Store.OK);
        Check.due(x.begin(), 0);
        Check.due(x.cell(1, 0, 0), 0);
        Check.due(x.cell(0, 0, 0), 5);
        Check.due(x.cell(-1, 0, 0), 5);
        Check.due(x.cell(1, 1, 0), 1);
        Check.due(x.cell(0, 1, 0), Check.NOT_SEEN);
        Check.due(x.cell(-1, 1, 0), Check.NOT_SEEN);
        Check.due(x.ask(1, 0, 0), 2);
        Check.due(x.ask(0, 0, 0), 1);
        Check.due(x.ask(-1, 0, 0), 1);
        x.abort(1);
        Check.due(x.state(2), 1);
    }

    private static void versionHoldsForEver() {
        Check.sentence("up to and without another one or for ever.");
        Store x = Scenes.filled(2);
        for (int i = 0; i < 100; i++) {
            x.begin();
            x.update(0, 1, 0, i);
            Check.due(x.commit(0), Store.OK);
        }
        Check.due(x.cell(-1, 0, 1), 0);
        Check.due(x.cell(-1, 1, 0), 99);
        Check.due(x.cell(-1, 1, 1), 10);
        Check.state(x, 101, 2, 2, 0, 2);
    }

    private static void clockAtFirst() {
        Check.sentence("The CLOCK is a time, 0 at first.");
        Store x = new Store();
        Check.due(x.state(0), 0);
        x.begin();
        x.insert(0, 1, 1, 1);
        Check.due(x.state(0), 0);
        x.abort(0);
        x.begin();
        x.commit(0);
        Check.due(x.state(0), 0);
        x.begin();
        x.insert(0, 1, 1, 1);
        x.commit(0);
        Check.due(x.state(0), 1);
    }

    private static void thereAtATime() {
        Check.sentence("A row is THERE at a time if a version of it holds then.");
        Store x = new Store();
        Check.due(x.begin(), 0);
        Check.due(x.begin(), 1);
        x.insert(1, 1, 2, 3);
        x.commit(1);
        Check.due(x.begin(), 1);
        Check.due(x.begin(), 2);
        x.remove(2, 0);
        x.commit(2);
        Check.due(x.begin(), 2);
        Check.due(x.ask(0, 0, 0), 0);
        Check.due(x.ask(1, 0, 0), 1);
        Check.due(x.ask(2, 0, 0), 0);
        Check.due(x.ask(-1, 0, 0), 0);
        Check.state(x, 2, 1, 1, 3, 0);
    }

    private static void transactions() {
        Check.sentence("TRANSACTIONS 0..3 are OPEN or not.");
        Store x = Scenes.filled(1);
        for (int t = 0; t < 4; t++) {
            Check.due(x.cell(t, 0, 1), Check.NOT_SEEN);
            Check.due(x.begin(), t);
            Check.due(x.cell(t, 0, 1), 0);
            Check.due(x.cell(t + 1, 0, 1), Check.NOT_SEEN);
        }
        Check.due(x.begin(), -1);
        for (int t : new int[] {-1, 4}) {
            Check.due(x.insert(t, 1, 1, 1), Store.NONE);
            Check.due(x.update(t, 0, 0, 1), Store.NONE);
            Check.due(x.remove(t, 0), Store.NONE);
            Check.due(x.commit(t), Store.NONE);
            Check.due(x.abort(t), false);
        }
        for (int t = 3; t >= 0; t--) {
            Check.due(x.abort(t), true);
            Check.due(x.cell(t, 0, 1), Check.NOT_SEEN);
        }
    }

    private static void start() {
        Check.sentence("One that is open has a START, the CLOCK when it began");
        for (int first = 0; first < 4; first++) {
            Store x = Scenes.filled(1);
            for (int t = 0; t < first; t++) {
                x.begin();
            }
            Check.due(x.begin(), first);
            for (int i = 0; i < 3 && first < 3; i++) {
                Check.due(x.begin(), first + 1);
                x.update(first + 1, 0, 0, 10 + i);
                Check.due(x.commit(first + 1), Store.OK);
                Check.due(x.cell(first, 0, 0), 0);
            }
            Check.due(x.abort(first), true);
            Check.due(x.begin(), first);
            Check.due(x.cell(first, 0, 0), first < 3 ? 12 : 0);
        }
    }

    private static void atMostEightChanges() {
        Check.sentence("CHANGES: of at most 8 rows that it inserted, updated or removed");
        for (int inserted = 0; inserted <= 8; inserted++) {
            for (int updated = 0; inserted + updated <= 8; updated++) {
                Store x = Scenes.filled(10);
                x.begin();
                for (int i = 0; i < 8; i++) {
                    if (i < inserted) {
                        Check.due(x.insert(0, 1, 1, 1), 10 + i);
                    } else if (i < inserted + updated) {
                        Check.due(x.update(0, i, 0, 1), Store.OK);
                    } else {
                        Check.due(x.remove(0, i), Store.OK);
                    }
                }
                Check.due(x.insert(0, 1, 1, 1), Store.FULL);
                Check.due(x.update(0, 9, 0, 1), Store.FULL);
                Check.due(x.remove(0, 9), Store.FULL);
                int removed = 8 - inserted - updated;
                Check.due(x.ask(0, 0, 0), 10 + inserted - removed);
                Check.due(x.commit(0), Store.OK);
                Check.state(x, 3, 10 + inserted, 10 + inserted - removed, 0,
                        10 + inserted - removed);
            }
        }
    }

    private static void sees() {
        Check.sentence("It SEES, of rows that it changed, what it made of them, and of the others "
                + "those that are there at its START, as they are then.");
        Store x = Scenes.filled(5);
        x.begin();
        x.begin();
        x.update(0, 0, 0, 50);
        x.remove(0, 1);
        int own = x.insert(0, 60, 61, 62);
        x.update(1, 0, 1, 70);
        x.update(1, 2, 0, 71);
        x.remove(1, 3);
        int foreign = x.insert(1, 72, 73, 74);
        Check.due(x.commit(1), Store.OK);
        Check.due(x.cell(0, 0, 0), 50);
        Check.due(x.cell(0, 0, 1), 0);
        Check.due(x.cell(0, 1, 0), Check.NOT_SEEN);
        Check.due(x.cell(0, 2, 0), 2);
        Check.due(x.cell(0, 3, 0), 3);
        Check.due(x.cell(0, 4, 0), 4);
        Check.due(x.cell(0, own, 2), 62);
        Check.due(x.cell(0, foreign, 0), Check.NOT_SEEN);
        Check.due(x.ask(0, 0, 0), 5);
        Check.due(x.ask(0, 1, 0), 50 + 2 + 3 + 4 + 60);
        Check.due(x.ask(-1, 1, 0), 1 + 71 + 4 + 72);
    }

    private static void seesNoLaterRows() {
        Check.sentence("of the others those that are there at its START (However old ones end.)");
        Store x = Scenes.filled(1);
        Check.due(x.begin(), 0);
        Check.due(x.begin(), 1);
        x.remove(1, 0);
        Check.due(x.commit(1), Store.OK);
        Check.due(x.begin(), 1);
        for (int i = 1; i < 20; i++) {
            Check.due(x.begin(), 2);
            Check.due(x.insert(2, i, i, i), i);
            Check.due(x.commit(2), Store.OK);
            if (i == 10) {
                Check.due(x.abort(0), true);
                Check.due(x.begin(), 0);
            }
            Check.due(x.ask(0, 0, 0), i < 10 ? 1 : 10);
            Check.due(x.ask(1, 0, 0), 0);
            Check.due(x.cell(1, i, 0), Check.NOT_SEEN);
            Check.due(x.cell(0, i, 0), i == 10 ? 10 : Check.NOT_SEEN);
            Check.due(x.cell(-1, i, 0), i);
        }
    }

    private static void insertedAndRemovedAreNoChanges() {
        Check.sentence("with changes (rows inserted and removed by itself are none)");
        Store x = Scenes.filled(2);
        x.begin();
        int row = x.insert(0, 1, 1, 1);
        x.update(0, row, 0, 2);
        x.remove(0, row);
        Check.due(x.commit(0), Store.OK);
        Check.state(x, 1, 3, 2, 0, 2);
        x.begin();
        row = x.insert(0, 1, 1, 1);
        x.remove(0, row);
        x.insert(0, 2, 2, 2);
        Check.due(x.commit(0), Store.OK);
        Check.state(x, 2, 5, 3, 0, 3);
        x.begin();
        x.update(0, 1, 0, 2);
        x.remove(0, 1);
        Check.due(x.commit(0), Store.OK);
        Check.state(x, 3, 5, 2, 0, 2);
    }

    /** 0: an update, 1: a removal, 2: an update and then a removal, of row 1. */
    private static void change(Store x, int t, int kind) {
        if (kind != 1) {
            Check.due(x.update(t, 1, 2, 7 + t), Store.OK);
        }
        if (kind != 0) {
            Check.due(x.remove(t, 1), Store.OK);
        }
    }

    private static void conflictOfEachKind() {
        Check.sentence("CONFLICT if a row that it updated or removed, and did not insert, has a "
                + "version that begins or ends after its START");
        for (int first = 0; first < 3; first++) {
            for (int second = 0; second < 3; second++) {
                for (int late = 0; late < 2; late++) {
                    Store x = Scenes.filled(3);
                    x.begin();
                    x.begin();
                    if (late == 0) {
                        change(x, 1, second);
                    }
                    change(x, 0, first);
                    Check.due(x.commit(0), Store.OK);
                    if (late == 1) {
                        change(x, 1, second);
                    }
                    Check.due(x.commit(1), Store.CONFLICT);
                    int there = first == 0 ? 3 : 2;
                    Check.state(x, 2, 3, there, 0, there);
                    Check.due(x.cell(-1, 1, 2), first == 0 ? 7 : Check.NOT_SEEN);
                }
            }
        }
    }

    private static void noConflictAtItsStart() {
        Check.sentence("has a version that begins or ends after its START (At its START is none.)");
        Store x = Scenes.filled(3);
        x.begin();
        x.update(0, 0, 0, 5);
        x.update(0, 1, 0, 6);
        Check.due(x.commit(0), Store.OK);
        x.begin();
        x.update(0, 0, 0, 7);
        x.remove(0, 1);
        Check.due(x.commit(0), Store.OK);
        Check.state(x, 3, 3, 2, 0, 2);
        Check.due(x.cell(-1, 0, 0), 7);
        Check.due(x.begin(), 0);
        Check.due(x.begin(), 1);
        x.update(0, 0, 0, 8);
        Check.due(x.commit(0), Store.OK);
        Check.due(x.begin(), 0);
        x.update(0, 0, 0, 9);
        x.update(1, 0, 0, 10);
        Check.due(x.commit(1), Store.CONFLICT);
        Check.due(x.commit(0), Store.OK);
        Check.due(x.cell(-1, 0, 0), 9);
    }

    private static void noConflictOfRowsNotChanged() {
        Check.sentence("CONFLICT if a row that it updated or removed (Others may have changed.)");
        Store x = Scenes.filled(4);
        x.begin();
        x.begin();
        x.update(0, 0, 0, 5);
        x.remove(0, 1);
        x.update(1, 2, 0, 6);
        x.remove(1, 3);
        Check.due(x.commit(0), Store.OK);
        Check.due(x.ask(1, 1, 0), 0 + 1 + 6);
        Check.due(x.commit(1), Store.OK);
        Check.state(x, 3, 4, 2, 0, 2);
        Check.due(x.cell(-1, 0, 0), 5);
        Check.due(x.cell(-1, 2, 0), 6);
    }

    private static void noConflictOfInsertedRows() {
        Check.sentence("CONFLICT if a row that it updated or removed, and did not insert");
        Store x = Scenes.filled(2);
        x.begin();
        x.begin();
        int one = x.insert(0, 1, 1, 1);
        int two = x.insert(1, 2, 2, 2);
        x.update(0, one, 0, 5);
        x.update(1, two, 0, 6);
        x.remove(1, x.insert(1, 3, 3, 3));
        x.update(0, 0, 0, 9);
        Check.due(x.commit(0), Store.OK);
        Check.due(x.commit(1), Store.OK);
        Check.state(x, 3, 5, 4, 0, 4);
        Check.due(x.cell(-1, one, 0), 5);
        Check.due(x.cell(-1, two, 0), 6);
    }

    private static void noConflictWithLostChanges() {
        Check.sentence("has a version that begins or ends after its START (Lost changes have none.)");
        Store x = Scenes.filled(3);
        x.begin();
        x.begin();
        x.begin();
        x.update(0, 0, 0, 5);
        x.update(1, 0, 0, 6);
        x.update(1, 1, 0, 6);
        x.update(2, 1, 0, 7);
        x.abort(2);
        Check.due(x.commit(0), Store.OK);
        Check.due(x.commit(1), Store.CONFLICT);
        x.begin();
        x.begin();
        x.update(0, 0, 1, 8);
        x.remove(1, 0);
        x.abort(1);
        Check.due(x.commit(0), Store.OK);
        Check.due(x.cell(-1, 0, 0), 5);
        Check.due(x.cell(-1, 0, 1), 8);
        Check.due(x.cell(-1, 1, 0), 1);
    }

    private static void conflictBehindManyVersions() {
        Check.sentence("has a version that begins or ends after its START (However long ago.)");
        for (int removed = 0; removed < 2; removed++) {
            Store x = Scenes.filled(1);
            x.begin();
            x.update(0, 0, 0, 99);
            for (int i = 0; i < 50; i++) {
                x.begin();
                x.update(1, 0, 0, i);
                Check.due(x.commit(1), Store.OK);
                Check.due(x.state(2), 2);
            }
            x.begin();
            if (removed == 1) {
                x.remove(1, 0);
            }
            Check.due(x.commit(1), Store.OK);
            Check.state(x, 51 + removed, 1, 2 - removed, 1, 1 - removed);
            Check.due(x.commit(0), Store.CONFLICT);
            Check.state(x, 51 + removed, 1, 1 - removed, 0, 1 - removed);
        }
    }

    private static void conflictOfTheLastOfEight() {
        Check.sentence("CONFLICT if a row that it updated or removed (Any one of the 8.)");
        for (int row = 0; row < 8; row++) {
            Store x = Scenes.filled(8);
            x.begin();
            x.begin();
            for (int i = 0; i < 8; i++) {
                x.update(1, i, 0, 100 + i);
            }
            x.update(0, row, 0, 50);
            Check.due(x.commit(0), Store.OK);
            Check.due(x.commit(1), Store.CONFLICT);
            Check.due(x.ask(-1, 1, 0), 28 - row + 50);
        }
    }

    private static void clockGoesUpByOne() {
        Check.sentence("else the CLOCK goes up by 1, the versions of rows that it updated or "
                + "removed, that held, end there, and its new ints hold from there on.");
        Store x = Scenes.filled(8);
        x.begin();
        for (int row = 0; row < 8; row++) {
            if (row % 2 == 0) {
                x.update(0, row, 0, 50);
            } else {
                x.remove(0, row);
            }
        }
        x.begin();
        Check.due(x.commit(0), Store.OK);
        Check.state(x, 2, 8, 12, 1, 4);
        for (int row = 0; row < 8; row++) {
            Check.due(x.cell(1, row, 0), row);
            Check.due(x.cell(-1, row, 0), row % 2 == 0 ? 50 : Check.NOT_SEEN);
            Check.due(x.cell(-1, row, 1), row % 2 == 0 ? 10 * row : Check.NOT_SEEN);
        }
        x.abort(1);
        Check.state(x, 2, 8, 4, 0, 4);
    }

    private static void liveAtTheClock() {
        Check.sentence("A version is LIVE if it holds at the CLOCK's time");
        Store x = Scenes.filled(2);
        Check.due(x.state(2), 2);
        x.begin();
        x.update(0, 0, 0, 5);
        x.insert(0, 1, 1, 1);
        Check.due(x.state(2), 2);
        x.commit(0);
        Check.due(x.state(2), 3);
        x.begin();
        x.remove(0, 0);
        x.commit(0);
        Check.due(x.state(2), 2);
    }

    private static void liveAtAStart() {
        Check.sentence("A version is LIVE if it holds .. at the START of an open transaction.");
        Store x = Scenes.filled(1);
        Check.due(x.begin(), 0);
        for (int i = 0; i < 3; i++) {
            Check.due(x.begin(), 1);
            x.update(1, 0, 0, 5 + i);
            x.commit(1);
        }
        Check.due(x.state(2), 2);
        Check.due(x.begin(), 1);
        Check.due(x.begin(), 2);
        x.remove(2, 0);
        x.commit(2);
        Check.due(x.state(2), 2);
        Check.due(x.begin(), 2);
        Check.due(x.state(2), 2);
        x.abort(0);
        Check.due(x.state(2), 1);
        x.commit(1);
        Check.due(x.state(2), 0);
    }

    private static void atMostForty() {
        Check.sentence("There are at most 40.");
        for (int before = 38; before <= 40; before++) {
            Store x = Scenes.filled(before);
            Check.due(x.state(2), before);
            for (int row = before; row < 42; row++) {
                x.begin();
                x.insert(0, row, row, row);
                Check.due(x.commit(0), row < 40 ? Store.OK : Store.FULL);
                Check.due(x.state(2), row < 40 ? row + 1 : 40);
                x.abort(0);
            }
        }
        Store x = Scenes.filled(37);
        for (int i = 0; i < 3; i++) {
            x.begin();
            Check.due(x.begin(), i + 1);
            x.update(i + 1, 0, 0, 50 + i);
            Check.due(x.commit(i + 1), Store.OK);
            Check.due(x.state(2), 38 + i);
        }
        Check.due(x.begin(), 3);
        x.update(3, 0, 0, 60);
        Check.due(x.commit(3), Store.OK);
        Check.due(x.state(2), 40);
        Check.due(x.begin(), 3);
        x.update(3, 1, 0, 61);
        Check.due(x.commit(3), Store.FULL);
        Check.due(x.state(2), 40);
        x.abort(1);
        Check.due(x.state(2), 39);
        Check.due(x.commit(3), Store.OK);
        Check.due(x.state(2), 40);
        for (int t = 0; t < 3; t += 2) {
            Check.due(x.cell(t, 0, 0), t == 0 ? 0 : 51);
            Check.due(x.cell(t, 1, 0), 1);
        }
        Check.due(x.cell(-1, 1, 0), 61);
    }

    private static void conditions() {
        Check.sentence("CONDITIONS 0 and 1: a column and a range, or none; a row PASSES if its ints "
                + "are in the ranges of both.");
        Store x = Scenes.filled(8);
        int[][] ranges = {{-1, 0, 0}, {0, 1, 5}, {1, 30, 70}, {2, 400, 300}};
        int[] passing = {255, 0x3e, 0xf8, 0};
        for (int i = 0; i < 4; i++) {
            for (int j = 0; j < 4; j++) {
                Check.due(x.where(0, ranges[i][0], ranges[i][1], ranges[i][2]), true);
                Check.due(x.where(1, ranges[j][0], ranges[j][1], ranges[j][2]), true);
                int due = passing[i] & passing[j];
                Check.due(x.ask(-1, 0, 0), Integer.bitCount(due));
                for (int row = 0; row < 8; row++) {
                    int before = Integer.bitCount(due & (1 << row) - 1);
                    Check.due(x.rank(-1, 0, row), (due >> row & 1) == 1 ? before : -1);
                }
            }
        }
    }

    private static void askedOfNoOne() {
        Check.sentence("of no one (-1: the rows that are there at the CLOCK's time)");
        Store x = Scenes.filled(3);
        x.begin();
        x.update(0, 0, 0, 50);
        x.remove(0, 1);
        x.insert(0, 60, 61, 62);
        for (int column = 0; column < 3; column++) {
            int step = new int[] {1, 10, 100}[column];
            Check.due(x.ask(-1, 0, column), 3);
            Check.due(x.ask(-1, 1, column), 3 * step);
            Check.due(x.group(-1, column, 1, 0, column), step);
            Check.due(x.order(-1, column, 1), 1);
            Check.due(x.rank(-1, column, 1), 1);
            Check.due(x.cell(-1, 1, column), step);
            Check.due(x.cell(-1, 3, column), Check.NOT_SEEN);
        }
        x.commit(0);
        Check.due(x.ask(-1, 1, 0), 50 + 2 + 60);
        Check.due(x.order(-1, 0, 2), 3);
        Check.due(x.rank(-1, 0, 1), -1);
        Check.due(x.cell(-1, 0, 0), 50);
    }
}
