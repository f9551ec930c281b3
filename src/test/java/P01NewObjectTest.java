/** Promise 1: a new object. */
public final class P01NewObjectTest {
    public static void main(String[] args) {
        noRows();
        nothingOpen();
        noConditions();
        objectsAreApart();
        Check.end();
    }

    private static void noRows() {
        Check.sentence("`SegmentStore()`: No rows, nothing open, no conditions. (No rows.)");
        Store x = new Store();
        Check.state(x, 0, 0, 0, 0, 0);
        for (int column = 0; column < 3; column++) {
            for (int what = 0; what < 5; what++) {
                Check.due(x.ask(-1, what, column), 0);
                Check.due(x.group(-1, column, 0, what, column), 0);
            }
            Check.due(x.order(-1, column, 0), -1);
            Check.due(x.rank(-1, column, 0), -1);
            Check.due(x.cell(-1, 0, column), Check.NOT_SEEN);
        }
        x.begin();
        Check.due(x.ask(0, 0, 0), 0);
        Check.due(x.cell(0, 0, 0), Check.NOT_SEEN);
        Check.due(x.update(0, 0, 0, 1), Store.NONE);
        Check.due(x.remove(0, 0), Store.NONE);
        Check.due(x.insert(0, 1, 2, 3), 0);
    }

    private static void nothingOpen() {
        Check.sentence("`SegmentStore()`: No rows, nothing open, no conditions. (Nothing open.)");
        Store x = new Store();
        Check.due(x.state(3), 0);
        for (int t = 0; t < 4; t++) {
            Check.due(x.insert(t, 1, 2, 3), Store.NONE);
            Check.due(x.update(t, 0, 0, 1), Store.NONE);
            Check.due(x.remove(t, 0), Store.NONE);
            Check.due(x.commit(t), Store.NONE);
            Check.due(x.abort(t), false);
        }
        Check.state(x, 0, 0, 0, 0, 0);
        Check.due(x.begin(), 0);
    }

    private static void noConditions() {
        Check.sentence("`SegmentStore()`: No rows, nothing open, no conditions. (No conditions.)");
        Store x = new Store();
        x.begin();
        x.insert(0, Check.MIN, Check.MIN, Check.MIN);
        x.insert(0, Check.MAX, Check.MAX, Check.MAX);
        x.insert(0, 0, 0, 0);
        x.insert(0, Check.MIN, 0, Check.MAX);
        Check.due(x.ask(0, 0, 0), 4);
        x.commit(0);
        Check.due(x.ask(-1, 0, 0), 4);
    }

    private static void objectsAreApart() {
        Check.sentence("`SegmentStore()`: No rows, nothing open, no conditions. (Behind another.)");
        Store x = new Store();
        Scenes.busy(x);
        Store y = new Store();
        Check.state(y, 0, 0, 0, 0, 0);
        Check.due(y.begin(), 0);
        Check.due(y.insert(0, 100, 200, 300), 0);
        Check.due(y.ask(0, 0, 0), 1);
        Check.due(y.commit(0), Store.OK);
        Check.state(y, 1, 1, 1, 0, 1);
        Check.due(x.state(1), 16);
        Check.due(x.state(3), 3);
        Check.due(x.cell(-1, 0, 0), 4);
    }
}
