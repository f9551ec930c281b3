/** Promise 2: begin. */
public final class P02BeginTest {
    public static void main(String[] args) {
        inTheirOrder();
        theLowestThatIsNotOpen();
        openAgainBehindEachEnd();
        stillOpenBehindFull();
        allOpen();
        startsAnew();
        Check.end();
    }

    private static void inTheirOrder() {
        Check.sentence("The lowest transaction that is not open begins: its number");
        Store x = new Store();
        for (int t = 0; t < 4; t++) {
            Check.due(x.state(3), t);
            Check.due(x.begin(), t);
        }
        Check.state(x, 0, 0, 0, 4, 0);
    }

    private static void theLowestThatIsNotOpen() {
        Check.sentence("The lowest transaction that is not open begins: its number (Any open ones.)");
        for (int open = 0; open < 15; open++) {
            Store x = new Store();
            for (int t = 0; t < 4; t++) {
                x.begin();
            }
            for (int t = 3; t >= 0; t--) {
                if ((open >> t & 1) == 0) {
                    Check.due(x.abort(t), true);
                }
            }
            Check.due(x.begin(), Integer.numberOfTrailingZeros(~open));
            Check.due(x.state(3), Integer.bitCount(open) + 1);
        }
    }

    private static void openAgainBehindEachEnd() {
        Check.sentence("The lowest transaction that is not open begins: its number (Ended before.)");
        Store x = Scenes.filled(2);
        x.begin();
        x.begin();
        Check.due(x.abort(0), true);
        Check.due(x.begin(), 0);
        Check.due(x.commit(0), Store.OK);
        Check.due(x.begin(), 0);
        x.insert(0, 1, 1, 1);
        Check.due(x.commit(0), Store.OK);
        Check.due(x.begin(), 0);
        x.update(0, 0, 0, 1);
        x.update(1, 0, 0, 2);
        Check.due(x.commit(1), Store.OK);
        Check.due(x.commit(0), Store.CONFLICT);
        Check.due(x.begin(), 0);
        Check.due(x.begin(), 1);
    }

    private static void stillOpenBehindFull() {
        Check.sentence("The lowest transaction that is not open begins: its number (Behind FULL.)");
        Store x = new Store();
        Scenes.fortyAndOne(x);
        Check.due(x.commit(0), Store.FULL);
        Check.due(x.begin(), 1);
    }

    private static void allOpen() {
        Check.sentence("-1 if all are open.");
        Unchanged.by(x -> {
            Scenes.busy(x);
            x.begin();
        }, x -> x.begin(), -1);
        Store x = new Store();
        for (int t = 0; t < 4; t++) {
            x.begin();
        }
        for (int i = 0; i < 10; i++) {
            Check.due(x.begin(), -1);
        }
        Check.due(x.state(3), 4);
        x.abort(3);
        Check.due(x.begin(), 3);
        Check.due(x.begin(), -1);
    }

    private static void startsAnew() {
        Check.sentence("One that is open has a START, the CLOCK when it began, and CHANGES (None yet.)");
        Store x = Scenes.filled(9);
        x.begin();
        for (int row = 0; row < 8; row++) {
            x.update(0, row, 0, 1000);
        }
        x.abort(0);
        x.begin();
        Check.due(x.ask(0, 1, 0), 36);
        for (int row = 1; row < 9; row++) {
            Check.due(x.update(0, row, 0, 7), Store.OK);
        }
        Check.due(x.update(0, 0, 0, 7), Store.FULL);
        Check.due(x.commit(0), Store.OK);
        x.begin();
        Check.due(x.cell(0, 8, 0), 7);
        Check.due(x.update(0, 0, 0, 7), Store.OK);
        Check.due(x.commit(0), Store.OK);
        Check.due(x.state(0), 4);
    }
}
