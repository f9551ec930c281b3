/** Runs of calls that many tests begin with. */
final class Scenes {
    private Scenes() {
    }

    /** Rows 0 .. count-1 are there, row i with the ints i, 10 * i, 100 * i; nothing is open. */
    static void fill(Store x, int count) {
        int row = 0;
        while (row < count) {
            int t = x.begin();
            for (int i = 0; i < 8 && row < count; i++) {
                Check.due(x.insert(t, row, 10 * row, 100 * row), row);
                row++;
            }
            Check.due(x.commit(t), Store.OK);
        }
    }

    static Store filled(int count) {
        Store x = new Store();
        fill(x, count);
        return x;
    }

    /**
     * Something of everything: 12 rows and one removed, two conditions; 0 is open and overtaken, 1
     * is open and has changes of each kind, 2 is not open, 3 is open and has none.
     */
    static void busy(Store x) {
        fill(x, 13);
        x.begin();
        x.begin();
        x.begin();
        x.begin();
        x.update(2, 0, 0, 4);
        x.update(2, 3, 2, -300);
        x.remove(2, 12);
        Check.due(x.commit(2), Store.OK);
        x.update(0, 0, 1, 20);
        x.insert(0, 5, 50, -50);
        x.insert(1, 6, 60, -60);
        x.update(1, 1, 0, 7);
        x.remove(1, 2);
        int own = x.insert(3, 1, 1, 1);
        x.remove(3, own);
        x.where(0, 0, 2, 9);
        x.where(1, 1, 10, 80);
    }

    /** 10 rows are there, and 0 is open and has changed 8: 3 inserted, 3 updated, 2 removed. */
    static void eightChanged(Store x) {
        fill(x, 10);
        x.begin();
        for (int i = 0; i < 3; i++) {
            Check.due(x.insert(0, 20 + i, 21 + i, 22 + i), 10 + i);
            Check.due(x.update(0, i, 0, 30 + i), Store.OK);
        }
        Check.due(x.remove(0, 3), Store.OK);
        Check.due(x.remove(0, 4), Store.OK);
    }

    /** 40 versions are LIVE, and 0 is open and has inserted a row too many. */
    static void fortyAndOne(Store x) {
        fill(x, 40);
        x.begin();
        x.insert(0, 40, 400, 4000);
    }

    /** 1 is open and has changed rows of which 0 changed one and committed it first. */
    static void overtaken(Store x) {
        fill(x, 4);
        x.begin();
        x.begin();
        x.update(0, 1, 0, 11);
        x.update(1, 0, 0, 12);
        x.update(1, 1, 1, 13);
        x.remove(1, 2);
        x.insert(1, 14, 15, 16);
        Check.due(x.commit(0), Store.OK);
    }
}
