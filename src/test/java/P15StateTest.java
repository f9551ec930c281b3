/** Promise 15: state. */
public final class P15StateTest {
    public static void main(String[] args) {
        clock();
        inserted();
        live();
        liveIsCountedOnce();
        open();
        there();
        noSuchWhat();
        Check.end();
    }

    private static void clock() {
        Check.sentence("What 0: the CLOCK");
        Store x = new Store();
        Check.due(x.state(0), 0);
        for (int i = 1; i <= 20; i++) {
            x.begin();
            int row = x.insert(0, i, i, i);
            Check.due(x.state(0), i - 1);
            Check.due(x.commit(0), Store.OK);
            Check.due(x.state(0), i);
            x.begin();
            x.remove(0, row);
            x.abort(0);
            x.begin();
            x.commit(0);
            Check.due(x.state(0), i);
        }
        Store y = new Store();
        Scenes.overtaken(y);
        Check.due(y.state(0), 2);
        y.commit(1);
        Check.due(y.state(0), 2);
        Store z = new Store();
        Scenes.fortyAndOne(z);
        z.commit(0);
        Check.due(z.state(0), 5);
    }

    private static void inserted() {
        Check.sentence("1: how many rows were inserted");
        Store x = new Store();
        Check.due(x.state(1), 0);
        Check.due(x.insert(0, 1, 1, 1), Store.NONE);
        Check.due(x.state(1), 0);
        x.begin();
        for (int i = 1; i <= 8; i++) {
            x.insert(0, i, i, i);
            Check.due(x.state(1), i);
        }
        Check.due(x.insert(0, 1, 1, 1), Store.FULL);
        Check.due(x.state(1), 8);
        x.remove(0, 3);
        Check.due(x.state(1), 8);
        x.abort(0);
        Check.due(x.state(1), 8);
        x.begin();
        x.insert(0, 1, 1, 1);
        x.commit(0);
        Check.due(x.state(1), 9);
        x.begin();
        x.remove(0, 8);
        x.commit(0);
        Check.due(x.state(1), 9);
    }

    private static void live() {
        Check.sentence("2: how many versions are LIVE");
        Store x = new Store();
        Check.due(x.state(2), 0);
        x.begin();
        x.insert(0, 1, 1, 1);
        x.insert(0, 2, 2, 2);
        Check.due(x.state(2), 0);
        x.commit(0);
        Check.due(x.state(2), 2);
        x.begin();
        x.begin();
        x.update(1, 0, 0, 7);
        Check.due(x.state(2), 2);
        x.commit(1);
        Check.due(x.state(2), 3);
        x.begin();
        x.remove(1, 1);
        x.commit(1);
        Check.due(x.state(2), 3);
        x.abort(0);
        Check.due(x.state(2), 1);
        x.begin();
        x.remove(0, 0);
        x.commit(0);
        Check.due(x.state(2), 0);
    }

    private static void liveIsCountedOnce() {
        Check.sentence("A version is LIVE if it holds at the CLOCK's time, or at the START of an "
                + "open transaction. (Or at more than one of them.)");
        Store x = Scenes.filled(1);
        for (int t = 0; t < 3; t++) {
            x.begin();
        }
        Check.due(x.state(2), 1);
        x.begin();
        x.update(3, 0, 0, 2);
        x.commit(3);
        Check.due(x.state(2), 2);
        x.begin();
        x.commit(2);
        x.begin();
        Check.due(x.state(2), 2);
        x.update(2, 0, 0, 3);
        x.commit(2);
        Check.due(x.state(2), 3);
        x.abort(0);
        Check.due(x.state(2), 3);
        x.abort(1);
        Check.due(x.state(2), 2);
        x.abort(3);
        Check.due(x.state(2), 1);
    }

    private static void open() {
        Check.sentence("3: how many transactions are open");
        Store x = new Store();
        for (int t = 0; t < 4; t++) {
            Check.due(x.state(3), t);
            x.begin();
        }
        Check.due(x.state(3), 4);
        x.begin();
        Check.due(x.state(3), 4);
        x.abort(1);
        Check.due(x.state(3), 3);
        x.abort(1);
        Check.due(x.state(3), 3);
        x.commit(3);
        Check.due(x.state(3), 2);
        x.commit(0);
        x.commit(2);
        Check.due(x.state(3), 0);
    }

    private static void there() {
        Check.sentence("4: how many rows are there at the CLOCK's time");
        Store x = Scenes.filled(40);
        Check.due(x.state(4), 40);
        x.where(0, 0, 3, 5);
        Check.due(x.state(4), 40);
        x.begin();
        x.begin();
        for (int row = 0; row < 8; row++) {
            x.remove(1, row);
        }
        Check.due(x.state(4), 40);
        x.commit(1);
        Check.due(x.state(4), 32);
        Check.due(x.state(2), 40);
        x.commit(0);
        Check.due(x.state(4), 32);
        for (int round = 1; round < 5; round++) {
            x.begin();
            for (int row = 0; row < 8; row++) {
                Check.due(x.remove(0, 8 * round + row), Store.OK);
            }
            x.commit(0);
            Check.due(x.state(4), 32 - 8 * round);
        }
        Check.state(x, 10, 40, 0, 0, 0);
    }

    private static void noSuchWhat() {
        Check.sentence("else -1.");
        for (int what : Check.outside(0, 4)) {
            Store x = new Store();
            Check.due(x.state(what), -1);
            Unchanged.by(Scenes::busy, y -> y.state(what), -1);
        }
    }
}
