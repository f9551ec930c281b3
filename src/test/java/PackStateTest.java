/** Promises 14 and 15: pack and state. */
public final class PackStateTest {
    public static void main(String[] args) {
        state();
        liveIsCountedOnce();
        pack();
        packKeepsWhatIsSeen();
        Check.end();
    }

    private static void state() {
        SegmentStore x = new SegmentStore();
        Check.due("state -1", x.state(-1), -1);
        Check.due("state 5", x.state(5), -1);
        Check.due("state most", x.state(Integer.MAX_VALUE), -1);
        Check.due("state least", x.state(Integer.MIN_VALUE), -1);
        Check.state("new", x, 0, 0, 0, 0, 0);
        x.begin();
        Check.state("begun", x, 0, 0, 0, 1, 0);
        x.insert(0, 1, 1, 1);
        x.insert(0, 2, 2, 2);
        Check.state("inserted", x, 0, 2, 0, 1, 0);
        x.commit(0);
        Check.state("committed", x, 1, 2, 2, 0, 2);
        x.begin();
        x.begin();
        x.update(1, 0, 0, 7);
        Check.state("updated", x, 1, 2, 2, 2, 2);
        x.commit(1);
        Check.state("update committed", x, 2, 2, 3, 1, 2);
        x.begin();
        x.remove(1, 1);
        x.commit(1);
        Check.state("remove committed", x, 3, 2, 3, 1, 1);
        x.abort(0);
        Check.state("aborted", x, 3, 2, 1, 0, 1);
    }

    private static void liveIsCountedOnce() {
        SegmentStore x = new SegmentStore();
        x.begin();
        x.insert(0, 1, 1, 1);
        x.commit(0);
        for (int t = 0; t < 3; t++) {
            x.begin();
        }
        Check.due("seen by three and the clock", x.state(2), 1);
        x.begin();
        x.update(3, 0, 0, 2);
        x.commit(3);
        Check.due("an old and a new one", x.state(2), 2);
        x.begin();
        x.commit(2);
        x.begin();
        Check.due("still two", x.state(2), 2);
        x.update(2, 0, 0, 3);
        x.commit(2);
        Check.due("three starts, three versions", x.state(2), 3);
        x.abort(0);
        x.abort(1);
        Check.due("the first is seen no more", x.state(2), 2);
        x.abort(3);
        Check.due("the second neither", x.state(2), 1);
    }

    private static SegmentStore busy() {
        SegmentStore x = new SegmentStore();
        x.begin();
        for (int i = 0; i < 8; i++) {
            x.insert(0, i % 3, 70000 * i, -i);
        }
        x.commit(0);
        x.begin();
        x.begin();
        x.begin();
        x.update(0, 1, 0, 50);
        x.remove(0, 2);
        x.insert(0, 9, Integer.MIN_VALUE, 9);
        x.commit(0);
        x.remove(1, 5);
        x.update(1, 6, 2, Integer.MAX_VALUE);
        x.insert(1, 4, 4, 4);
        x.abort(2);
        x.where(0, 0, 0, 60);
        return x;
    }

    private static void pack() {
        SegmentStore x = busy();
        SegmentStore y = busy();
        y.pack();
        y.pack();
        for (int t = -1; t < 4; t++) {
            for (int column = 0; column < 3; column++) {
                for (int i = 0; i < 12; i++) {
                    String at = t + " " + column + " " + i;
                    Check.due("packed: ask " + at, y.ask(t, i, column), x.ask(t, i, column));
                    Check.due("packed: order " + at, y.order(t, column, i), x.order(t, column, i));
                    Check.due("packed: rank " + at, y.rank(t, column, i), x.rank(t, column, i));
                    Check.due("packed: cell " + at, y.cell(t, i, column), x.cell(t, i, column));
                    Check.due("packed: group " + at, y.group(t, 0, i / 4, i % 4, column),
                            x.group(t, 0, i / 4, i % 4, column));
                }
            }
        }
        for (int what = 0; what < 5; what++) {
            Check.due("packed: state " + what, y.state(what), x.state(what));
        }
        Check.due("packed: begin", y.begin(), x.begin());
        Check.due("packed: commit", y.commit(1), x.commit(1));
        Check.due("packed: ask", y.ask(-1, 1, 0), x.ask(-1, 1, 0));
    }

    private static void packKeepsWhatIsSeen() {
        SegmentStore x = new SegmentStore();
        x.pack();
        Check.state("packed new", x, 0, 0, 0, 0, 0);
        x.begin();
        x.insert(0, 1, 2, 3);
        x.pack();
        Check.due("packed: a change stays", x.cell(0, 0, 2), 3);
        Check.due("packed: committed", x.commit(0), SegmentStore.OK);
        x.begin();
        x.begin();
        x.update(0, 0, 0, 9);
        x.update(1, 0, 0, 8);
        x.commit(0);
        x.pack();
        Check.state("packed", x, 2, 1, 2, 1, 1);
        Check.due("packed: the new one", x.cell(-1, 0, 0), 9);
        Check.due("packed: its own", x.cell(1, 0, 0), 8);
        Check.due("packed: the old one", x.cell(1, 0, 1), 2);
        Check.due("packed: conflict", x.commit(1), SegmentStore.CONFLICT);
        x.pack();
        Check.state("packed again", x, 2, 1, 1, 0, 1);
        Check.due("packed: the new one", x.cell(-1, 0, 0), 9);
    }
}
