/** Promise 7: abort. */
public final class P07AbortTest {
    public static void main(String[] args) {
        openNoMore();
        changesAreLost();
        behindFull();
        liveNoMore();
        notOpen();
        noSuchTransaction();
        Check.end();
    }

    private static void openNoMore() {
        Check.sentence("It is open no more .. : true");
        for (int t = 0; t < 4; t++) {
            Store x = Scenes.filled(2);
            for (int i = 0; i < 4; i++) {
                x.begin();
            }
            Check.due(x.abort(t), true);
            Check.due(x.state(3), 3);
            Check.due(x.insert(t, 1, 1, 1), Store.NONE);
            Check.due(x.update(t, 0, 0, 1), Store.NONE);
            Check.due(x.remove(t, 0), Store.NONE);
            Check.due(x.commit(t), Store.NONE);
            Check.due(x.ask(t, 0, 0), 0);
            Check.due(x.cell(t, 0, 0), Check.NOT_SEEN);
            Check.due(x.ask((t + 1) % 4, 0, 0), 2);
            Check.due(x.begin(), t);
            Check.due(x.ask(t, 0, 0), 2);
        }
    }

    private static void changesAreLost() {
        Check.sentence("its changes are lost: true");
        Store x = Scenes.filled(3);
        x.begin();
        int row = x.insert(0, 1, 1, 1);
        x.update(0, 0, 0, 9);
        x.remove(0, 1);
        Check.due(x.abort(0), true);
        Check.state(x, 1, 4, 3, 0, 3);
        Check.due(x.cell(-1, 0, 0), 0);
        Check.due(x.cell(-1, 1, 0), 1);
        Check.due(x.cell(-1, row, 0), Check.NOT_SEEN);
        x.begin();
        Check.due(x.cell(0, 0, 0), 0);
        Check.due(x.cell(0, 1, 0), 1);
        Check.due(x.cell(0, row, 0), Check.NOT_SEEN);
        Check.due(x.commit(0), Store.OK);
        Check.state(x, 1, 4, 3, 0, 3);
    }

    private static void behindFull() {
        Check.sentence("It is open no more, its changes are lost: true (Behind FULL.)");
        Store x = new Store();
        Scenes.fortyAndOne(x);
        Check.due(x.commit(0), Store.FULL);
        Check.due(x.abort(0), true);
        Check.state(x, 5, 41, 40, 0, 40);
        Check.due(x.cell(-1, 40, 0), Check.NOT_SEEN);
        x.begin();
        Check.due(x.commit(0), Store.OK);
        Check.state(x, 5, 41, 40, 0, 40);
    }

    private static void liveNoMore() {
        Check.sentence("It is open no more (What it alone saw is LIVE no more.)");
        Store x = new Store();
        Scenes.overtaken(x);
        Check.due(x.state(2), 5);
        Check.due(x.abort(1), true);
        Check.due(x.state(2), 4);
    }

    private static void notOpen() {
        Check.sentence("false if it was not open. (Not begun, or ended.)");
        Unchanged.by(x -> { }, x -> x.abort(0) ? 1 : 0, 0);
        Unchanged.by(x -> { }, x -> x.abort(3) ? 1 : 0, 0);
        Unchanged.by(Scenes::busy, x -> x.abort(2) ? 1 : 0, 0);
        Unchanged.by(x -> {
            Scenes.eightChanged(x);
            x.abort(0);
        }, x -> x.abort(0) ? 1 : 0, 0);
        Unchanged.by(x -> {
            Scenes.eightChanged(x);
            x.commit(0);
        }, x -> x.abort(0) ? 1 : 0, 0);
        Unchanged.by(x -> {
            Scenes.overtaken(x);
            x.commit(1);
        }, x -> x.abort(1) ? 1 : 0, 0);
    }

    private static void noSuchTransaction() {
        Check.sentence("false if it was not open. (TRANSACTIONS 0..3.)");
        for (int t : Check.outside(0, 3)) {
            Unchanged.by(Scenes::busy, x -> x.abort(t) ? 1 : 0, 0);
        }
        Store x = new Store();
        for (int t = 0; t < 4; t++) {
            x.begin();
        }
        Check.due(x.abort(-1), false);
        Check.due(x.abort(4), false);
        Check.due(x.abort(0), true);
        Check.due(x.abort(3), true);
        Check.due(x.state(3), 2);
    }
}
