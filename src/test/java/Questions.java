/** Tables and wrong askers that the tests of the questions share. */
final class Questions {
    private Questions() {
    }

    /**
     * Six rows are there: (5, -1, MAX), (3, -1, 0), (5, -2, MIN), (-4, -2, 7), (3, -1, MAX),
     * (5, -3, 7).
     */
    static void table(Store x) {
        x.begin();
        x.insert(0, 5, -1, Check.MAX);
        x.insert(0, 3, -1, 0);
        x.insert(0, 5, -2, Check.MIN);
        x.insert(0, -4, -2, 7);
        x.insert(0, 3, -1, Check.MAX);
        x.insert(0, 5, -3, 7);
        x.commit(0);
    }

    static Store table() {
        Store x = new Store();
        table(x);
        return x;
    }

    /** The table, with 1 and 3 open, and 0 and 2 ended with changes that are lost. */
    static Store someOpen() {
        Store x = table();
        for (int t = 0; t < 4; t++) {
            x.begin();
        }
        x.insert(0, 1, 1, 1);
        x.insert(2, 1, 1, 1);
        x.abort(0);
        x.abort(2);
        return x;
    }

    /** Those of whom no question can be asked in someOpen. */
    static int[] notOpen() {
        int[] outside = Check.outside(-1, 3);
        int[] all = java.util.Arrays.copyOf(outside, outside.length + 2);
        all[outside.length] = 0;
        all[outside.length + 1] = 2;
        return all;
    }

    /** 40 rows are there and 8 more are inserted by 0: (MAX, MIN, i) for i from 0 to 47. */
    static Store fortyEight() {
        Store x = new Store();
        for (int i = 0; i < 5; i++) {
            x.begin();
            for (int j = 0; j < 8; j++) {
                x.insert(0, Check.MAX, Check.MIN, 8 * i + j);
            }
            Check.due(x.commit(0), Store.OK);
        }
        x.begin();
        for (int j = 0; j < 8; j++) {
            x.insert(0, Check.MAX, Check.MIN, 40 + j);
        }
        return x;
    }
}
