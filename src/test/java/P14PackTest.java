import java.util.function.Consumer;

/** Promise 14: pack. */
public final class P14PackTest {
    public static void main(String[] args) {
        ofNothing();
        betweenChanges();
        ofForty();
        beforeAConflict();
        behindEachEnd();
        beforeALaterRow();
        againAndAgain();
        Check.end();
    }

    private static void unchanged(Consumer<Store> before) {
        Unchanged.by(before, x -> {
            x.pack();
            return 0;
        }, 0);
    }

    private static void ofNothing() {
        Check.sentence("no answer depends on it. (Nothing is there, or all was removed.)");
        unchanged(x -> { });
        unchanged(x -> x.begin());
        unchanged(x -> {
            Scenes.fill(x, 2);
            x.begin();
            x.remove(0, 0);
            x.remove(0, 1);
            x.commit(0);
        });
    }

    private static void betweenChanges() {
        Check.sentence("no answer depends on it. (Transactions are open and have changes.)");
        unchanged(Scenes::busy);
        unchanged(Scenes::eightChanged);
        unchanged(Questions::table);
        Store x = new Store();
        x.begin();
        x.insert(0, 1, 2, 3);
        x.pack();
        Check.due(x.cell(0, 0, 2), 3);
        Check.due(x.update(0, 0, 2, 4), Store.OK);
        x.pack();
        Check.due(x.commit(0), Store.OK);
        x.pack();
        Check.due(x.cell(-1, 0, 2), 4);
        Check.state(x, 1, 1, 1, 0, 1);
    }

    private static void ofForty() {
        Check.sentence("no answer depends on it. (40 versions are LIVE.)");
        unchanged(Scenes::fortyAndOne);
        unchanged(x -> {
            Scenes.fortyAndOne(x);
            x.commit(0);
        });
        unchanged(P14PackTest::fortyOfManyTimes);
        Store x = new Store();
        fortyOfManyTimes(x);
        x.pack();
        Check.state(x, 6, 33, 40, 3, 32);
        Check.due(x.cell(0, 0, 0), 0);
        Check.due(x.cell(1, 0, 0), 50);
        Check.due(x.cell(2, 0, 0), 60);
    }

    /** 32 rows, 8 old versions that 0 or 1 see, and 2 behind both. */
    private static void fortyOfManyTimes(Store x) {
        Scenes.fill(x, 32);
        x.begin();
        for (int round = 0; round < 2; round++) {
            x.begin();
            for (int row = 0; row < 4; row++) {
                x.update(1 + round, row, 0, 50 + 10 * round + row);
            }
            Check.due(x.commit(1 + round), Store.OK);
            x.begin();
        }
        x.insert(2, 1, 1, 1);
        Check.due(x.commit(2), Store.FULL);
        x.abort(2);
        x.begin();
        Check.due(x.state(2), 40);
    }

    private static void beforeAConflict() {
        Check.sentence("no answer depends on it. (A conflict stays one.)");
        unchanged(Scenes::overtaken);
        Store x = Scenes.filled(1);
        x.begin();
        x.update(0, 0, 0, 99);
        for (int i = 0; i < 50; i++) {
            x.begin();
            x.update(1, 0, 0, i);
            Check.due(x.commit(1), Store.OK);
            x.pack();
            Check.due(x.state(2), 2);
        }
        x.begin();
        x.remove(1, 0);
        Check.due(x.commit(1), Store.OK);
        x.pack();
        Check.state(x, 52, 1, 1, 1, 0);
        Check.due(x.commit(0), Store.CONFLICT);
        x.pack();
        Check.state(x, 52, 1, 0, 0, 0);
    }

    private static void behindEachEnd() {
        Check.sentence("no answer depends on it. (Versions that no one sees any more.)");
        unchanged(x -> {
            Scenes.overtaken(x);
            x.abort(1);
        });
        unchanged(x -> {
            Scenes.overtaken(x);
            x.commit(1);
        });
        unchanged(x -> {
            Scenes.busy(x);
            x.commit(1);
            x.abort(0);
            x.commit(3);
        });
    }

    /** 1 began behind the end of row 0 and before row 1; 0 saw row 0 and is open no more. */
    private static void laterRow(Store x) {
        Scenes.fill(x, 1);
        x.begin();
        x.begin();
        x.remove(1, 0);
        Check.due(x.commit(1), Store.OK);
        x.begin();
        x.begin();
        Check.due(x.insert(2, 5, 6, 7), 1);
        Check.due(x.commit(2), Store.OK);
        Check.due(x.abort(0), true);
    }

    private static void beforeALaterRow() {
        Check.sentence("no answer depends on it. (What began later is not seen any earlier.)");
        unchanged(P14PackTest::laterRow);
        Store x = new Store();
        laterRow(x);
        x.pack();
        Check.due(x.cell(1, 1, 0), Check.NOT_SEEN);
        Check.due(x.ask(1, 0, 0), 0);
        Check.due(x.update(1, 1, 0, 9), Store.NONE);
        Check.due(x.cell(-1, 1, 0), 5);
    }

    private static void againAndAgain() {
        Check.sentence("no answer depends on it. (However often it is called.)");
        Unchanged.by(Scenes::busy, x -> {
            for (int i = 0; i < 30; i++) {
                x.pack();
            }
            return 0;
        }, 0);
    }
}
