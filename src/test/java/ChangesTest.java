/** Promises 2 to 7 and 16: begin, insert, update, remove, commit, abort, and their order. */
public final class ChangesTest {
    private static final long NOT_SEEN = 10000000000L;

    public static void main(String[] args) {
        begin();
        insert();
        update();
        remove();
        commit();
        commitOfNothing();
        conflicts();
        conflictBehindManyVersions();
        noConflict();
        full();
        fullCountsWhatOthersSee();
        fullWithoutChanges();
        abort();
        noneBeforeFull();
        conflictBeforeFull();
        Check.end();
    }

    /** A store with rows 0 .. count-1 committed, row i having the ints i, 10 * i, 100 * i. */
    private static SegmentStore filled(int count) {
        SegmentStore x = new SegmentStore();
        int row = 0;
        while (row < count) {
            int t = x.begin();
            for (int i = 0; i < 8 && row < count; i++) {
                Check.due("fill: insert", x.insert(t, row, 10 * row, 100 * row), row);
                row++;
            }
            Check.due("fill: commit", x.commit(t), SegmentStore.OK);
        }
        return x;
    }

    private static void begin() {
        SegmentStore x = new SegmentStore();
        for (int t = 0; t < 4; t++) {
            Check.due("begin", x.begin(), t);
            Check.due("begin: open", x.state(3), t + 1);
        }
        Check.due("begin: all open", x.begin(), -1);
        Check.due("begin: four open", x.state(3), 4);
        x.abort(2);
        x.abort(1);
        Check.due("begin: lowest", x.begin(), 1);
        Check.due("begin: next", x.begin(), 2);
        Check.due("begin: all open again", x.begin(), -1);
        Check.due("begin: the clock stays", x.state(0), 0);

        x = filled(1);
        x.begin();
        x.begin();
        x.update(0, 0, 0, 5);
        x.commit(0);
        Check.due("begin: start before", x.cell(1, 0, 0), 0);
        x.begin();
        Check.due("begin: start behind", x.cell(0, 0, 0), 5);
        Check.due("begin: old start stays", x.cell(1, 0, 0), 0);
        x.insert(0, 1, 1, 1);
        x.abort(0);
        x.begin();
        Check.due("begin: no changes of the one before", x.ask(0, 0, 0), 1);
    }

    private static void insert() {
        SegmentStore x = new SegmentStore();
        Check.due("insert: not open", x.insert(0, 1, 2, 3), SegmentStore.NONE);
        x.begin();
        x.begin();
        Check.due("insert: first", x.insert(0, 1, 2, 3), 0);
        Check.due("insert: by another", x.insert(1, 4, 5, 6), 1);
        Check.due("insert: by the first again", x.insert(0, 7, 8, 9), 2);
        Check.due("insert: -1", x.insert(-1, 1, 1, 1), SegmentStore.NONE);
        Check.due("insert: 2", x.insert(2, 1, 1, 1), SegmentStore.NONE);
        Check.due("insert: 4", x.insert(4, 1, 1, 1), SegmentStore.NONE);
        Check.due("insert: least", x.insert(Integer.MIN_VALUE, 1, 1, 1), SegmentStore.NONE);
        Check.due("insert: most", x.insert(Integer.MAX_VALUE, 1, 1, 1), SegmentStore.NONE);
        Check.due("insert: count", x.state(1), 3);
        for (int column = 0; column < 3; column++) {
            Check.due("insert: own row", x.cell(0, 0, column), 1 + column);
            Check.due("insert: own row", x.cell(0, 2, column), 7 + column);
            Check.due("insert: foreign row", x.cell(0, 1, column), NOT_SEEN);
            Check.due("insert: not there yet", x.cell(-1, 0, column), NOT_SEEN);
        }
        Check.due("insert: no versions", x.state(2), 0);
        for (int i = 0; i < 6; i++) {
            Check.due("insert: up to 8", x.insert(0, i, i, i), 3 + i);
        }
        Check.due("insert: ninth", x.insert(0, 1, 1, 1), SegmentStore.FULL);
        Check.due("insert: a full one takes no number", x.state(1), 9);
        Check.due("insert: the other is not full", x.insert(1, 1, 1, 1), 9);
        x.abort(0);
        x.begin();
        Check.due("insert: numbers go on behind an abort", x.insert(0, 1, 1, 1), 10);
    }

    private static void update() {
        SegmentStore x = filled(10);
        Check.due("update: not open", x.update(0, 1, 0, 5), SegmentStore.NONE);
        x.begin();
        Check.due("update", x.update(0, 1, 0, 5), SegmentStore.OK);
        Check.due("update: own", x.cell(0, 1, 0), 5);
        Check.due("update: other columns", x.cell(0, 1, 1), 10);
        Check.due("update: other columns", x.cell(0, 1, 2), 100);
        Check.due("update: not for others", x.cell(-1, 1, 0), 1);
        Check.due("update: again", x.update(0, 1, 2, Integer.MIN_VALUE), SegmentStore.OK);
        Check.due("update: both", x.cell(0, 1, 0), 5);
        Check.due("update: both", x.cell(0, 1, 2), Integer.MIN_VALUE);
        Check.due("update: column -1", x.update(0, 1, -1, 5), SegmentStore.NONE);
        Check.due("update: column 3", x.update(0, 1, 3, 5), SegmentStore.NONE);
        Check.due("update: row -1", x.update(0, -1, 0, 5), SegmentStore.NONE);
        Check.due("update: row 10", x.update(0, 10, 0, 5), SegmentStore.NONE);
        Check.due("update: far row", x.update(0, Integer.MAX_VALUE, 0, 5), SegmentStore.NONE);
        Check.due("update: t -1", x.update(-1, 1, 0, 5), SegmentStore.NONE);
        Check.due("update: t 4", x.update(4, 1, 0, 5), SegmentStore.NONE);
        for (int row = 2; row < 9; row++) {
            Check.due("update: up to 8", x.update(0, row, 1, row), SegmentStore.OK);
        }
        Check.due("update: ninth row", x.update(0, 9, 1, 1), SegmentStore.FULL);
        Check.due("update: unchanged behind FULL", x.cell(0, 9, 1), 90);
        Check.due("update: one of the eight", x.update(0, 2, 1, 77), SegmentStore.OK);
        Check.due("update: committed", x.commit(0), SegmentStore.OK);
        Check.due("update: there", x.cell(-1, 1, 0), 5);
        Check.due("update: there", x.cell(-1, 1, 1), 10);
        Check.due("update: there", x.cell(-1, 2, 1), 77);
        Check.due("update: there", x.cell(-1, 9, 1), 90);

        x.begin();
        x.begin();
        int row = x.insert(0, 1, 2, 3);
        Check.due("update: foreign insert", x.update(1, row, 0, 9), SegmentStore.NONE);
        Check.due("update: own insert", x.update(0, row, 1, 9), SegmentStore.OK);
        Check.due("update: own insert seen", x.cell(0, row, 1), 9);
        x.commit(0);
        Check.due("update: inserted behind its start", x.update(1, row, 0, 9), SegmentStore.NONE);
        Check.due("update: own insert there", x.cell(-1, row, 1), 9);
        x.where(0, 0, 1000, 2000);
        Check.due("update: a row that does not pass", x.update(1, 3, 0, 9), SegmentStore.OK);
    }

    private static void remove() {
        SegmentStore x = filled(10);
        Check.due("remove: not open", x.remove(0, 1), SegmentStore.NONE);
        x.begin();
        Check.due("remove: t -1", x.remove(-1, 1), SegmentStore.NONE);
        Check.due("remove: t 4", x.remove(4, 1), SegmentStore.NONE);
        Check.due("remove: row -1", x.remove(0, -1), SegmentStore.NONE);
        Check.due("remove: row 10", x.remove(0, 10), SegmentStore.NONE);
        Check.due("remove", x.remove(0, 1), SegmentStore.OK);
        Check.due("remove: twice", x.remove(0, 1), SegmentStore.NONE);
        Check.due("remove: update behind it", x.update(0, 1, 0, 1), SegmentStore.NONE);
        Check.due("remove: not seen", x.cell(0, 1, 0), NOT_SEEN);
        Check.due("remove: seen by others", x.cell(-1, 1, 0), 1);
        Check.due("remove: counted", x.ask(0, 0, 0), 9);
        x.update(0, 2, 0, 50);
        Check.due("remove: an updated one", x.remove(0, 2), SegmentStore.OK);
        Check.due("remove: an updated one", x.cell(0, 2, 0), NOT_SEEN);
        int own = x.insert(0, 1, 1, 1);
        Check.due("remove: its own", x.remove(0, own), SegmentStore.OK);
        Check.due("remove: its own twice", x.remove(0, own), SegmentStore.NONE);
        for (int row = 3; row < 8; row++) {
            Check.due("remove: up to 8", x.remove(0, row), SegmentStore.OK);
        }
        Check.due("remove: its own counts among the 8", x.remove(0, 8), SegmentStore.FULL);
        Check.due("remove: insert is full too", x.insert(0, 1, 1, 1), SegmentStore.FULL);
        Check.due("remove: update is full too", x.update(0, 8, 0, 1), SegmentStore.FULL);
        Check.due("remove: still seen", x.cell(0, 8, 0), 8);
        Check.due("remove: commit", x.commit(0), SegmentStore.OK);
        Check.state("remove", x, 3, 11, 3, 0, 3);
        x.begin();
        Check.due("remove: gone for ever", x.remove(0, 1), SegmentStore.NONE);
        Check.due("remove: never there", x.remove(0, own), SegmentStore.NONE);
        Check.due("remove: one that was updated in full", x.update(0, 8, 0, 1), SegmentStore.OK);
        Check.due("remove: a changed one is not FULL", x.remove(0, 8), SegmentStore.OK);
    }

    private static void commit() {
        SegmentStore x = new SegmentStore();
        Check.due("commit: not open", x.commit(0), SegmentStore.NONE);
        x.begin();
        Check.due("commit: -1", x.commit(-1), SegmentStore.NONE);
        Check.due("commit: 1", x.commit(1), SegmentStore.NONE);
        Check.due("commit: 4", x.commit(4), SegmentStore.NONE);
        Check.due("commit: most", x.commit(Integer.MAX_VALUE), SegmentStore.NONE);
        x.insert(0, 1, 2, 3);
        x.insert(0, 4, 5, 6);
        Check.due("commit", x.commit(0), SegmentStore.OK);
        Check.due("commit: twice", x.commit(0), SegmentStore.NONE);
        Check.state("commit", x, 1, 2, 2, 0, 2);
        x.begin();
        x.begin();
        x.update(0, 0, 0, 11);
        x.remove(0, 1);
        x.insert(0, 7, 8, 9);
        Check.due("commit: all kinds", x.commit(0), SegmentStore.OK);
        Check.state("commit: one still sees the old ones", x, 2, 3, 4, 1, 2);
        Check.due("commit: old", x.cell(1, 0, 0), 1);
        Check.due("commit: old", x.cell(1, 1, 0), 4);
        Check.due("commit: old", x.cell(1, 2, 0), NOT_SEEN);
        Check.due("commit: new", x.cell(-1, 0, 0), 11);
        Check.due("commit: new", x.cell(-1, 1, 0), NOT_SEEN);
        Check.due("commit: new", x.cell(-1, 2, 0), 7);
        x.insert(1, 0, 0, 0);
        Check.due("commit: insert alone never conflicts", x.commit(1), SegmentStore.OK);
        Check.state("commit: no one sees the old ones", x, 3, 4, 3, 0, 3);
    }

    private static void commitOfNothing() {
        SegmentStore x = filled(2);
        x.begin();
        Check.due("nothing: commit", x.commit(0), SegmentStore.OK);
        Check.state("nothing", x, 1, 2, 2, 0, 2);
        x.begin();
        int row = x.insert(0, 1, 1, 1);
        x.update(0, row, 0, 2);
        x.remove(0, row);
        Check.due("nothing: inserted and removed", x.commit(0), SegmentStore.OK);
        Check.state("nothing: inserted and removed", x, 1, 3, 2, 0, 2);
        x.begin();
        Check.due("nothing: the same int again", x.update(0, 0, 0, 0), SegmentStore.OK);
        Check.due("nothing: the same int again", x.commit(0), SegmentStore.OK);
        Check.state("the same int again is a change", x, 2, 3, 2, 0, 2);
        x.begin();
        x.update(0, 1, 0, 2);
        x.remove(0, 1);
        Check.due("a removed row is a change", x.commit(0), SegmentStore.OK);
        Check.state("a removed row is a change", x, 3, 3, 1, 0, 1);
        x.begin();
        row = x.insert(0, 1, 1, 1);
        x.remove(0, row);
        x.insert(0, 2, 2, 2);
        Check.due("one of two is a change", x.commit(0), SegmentStore.OK);
        Check.state("one of two is a change", x, 4, 5, 2, 0, 2);
    }

    private static void conflicts() {
        for (int first = 0; first < 2; first++) {
            for (int second = 0; second < 2; second++) {
                SegmentStore x = filled(3);
                x.begin();
                x.begin();
                change(x, 0, first);
                change(x, 1, second);
                x.insert(1, 9, 9, 9);
                Check.due("conflict: first", x.commit(0), SegmentStore.OK);
                Check.due("conflict: second", x.commit(1), SegmentStore.CONFLICT);
                Check.due("conflict: open no more", x.state(3), 0);
                Check.due("conflict: again", x.commit(1), SegmentStore.NONE);
                Check.due("conflict: the clock", x.state(0), 2);
                Check.due("conflict: changes are lost", x.ask(-1, 0, 0), first == 0 ? 3 : 2);
                Check.due("conflict: the insert is lost", x.cell(-1, 3, 0), NOT_SEEN);
                Check.due("conflict: but numbered", x.state(1), 4);
            }
        }
        SegmentStore x = filled(3);
        x.begin();
        x.begin();
        x.update(1, 0, 0, 5);
        x.commit(1);
        Check.due("conflict: changed behind the commit", x.update(0, 0, 1, 6), SegmentStore.OK);
        Check.due("conflict: changed behind the commit", x.commit(0), SegmentStore.CONFLICT);
        Check.due("conflict: the first stays", x.cell(-1, 0, 0), 5);
        Check.due("conflict: the second is lost", x.cell(-1, 0, 1), 0);
    }

    private static void change(SegmentStore x, int t, int kind) {
        if (kind == 0) {
            Check.due("change: update", x.update(t, 1, 2, t), SegmentStore.OK);
        } else {
            Check.due("change: remove", x.remove(t, 1), SegmentStore.OK);
        }
    }

    /** The versions between the one seen and the one that holds are gone: still a conflict. */
    private static void conflictBehindManyVersions() {
        SegmentStore x = filled(1);
        x.begin();
        x.update(0, 0, 0, 99);
        for (int i = 0; i < 50; i++) {
            x.begin();
            x.update(1, 0, 0, i);
            Check.due("many: commit", x.commit(1), SegmentStore.OK);
            Check.due("many: live", x.state(2), 2);
        }
        x.begin();
        x.remove(1, 0);
        Check.due("many: removed", x.commit(1), SegmentStore.OK);
        Check.state("many", x, 52, 1, 1, 1, 0);
        x.pack();
        Check.due("many: commit", x.commit(0), SegmentStore.CONFLICT);
        Check.state("many: behind", x, 52, 1, 0, 0, 0);
    }

    private static void noConflict() {
        SegmentStore x = filled(3);
        x.begin();
        x.begin();
        x.begin();
        x.update(0, 0, 0, 5);
        x.update(1, 1, 0, 6);
        x.update(2, 0, 0, 7);
        Check.due("no conflict: first", x.commit(0), SegmentStore.OK);
        Check.due("no conflict: another row", x.commit(1), SegmentStore.OK);
        x.abort(2);
        x.begin();
        x.begin();
        x.update(0, 0, 1, 8);
        x.update(1, 0, 2, 9);
        x.abort(1);
        Check.due("no conflict: the other was aborted", x.commit(0), SegmentStore.OK);
        Check.due("no conflict: all there", x.cell(-1, 0, 0), 5);
        Check.due("no conflict: all there", x.cell(-1, 0, 1), 8);
        Check.due("no conflict: all there", x.cell(-1, 0, 2), 0);
        Check.due("no conflict: all there", x.cell(-1, 1, 0), 6);
    }

    private static void full() {
        SegmentStore x = filled(39);
        x.begin();
        x.insert(0, 1, 1, 1);
        x.insert(0, 2, 2, 2);
        Check.due("full: 41", x.commit(0), SegmentStore.FULL);
        Check.state("full: it stays open", x, 5, 41, 39, 1, 39);
        Check.due("full: its changes stay", x.ask(0, 0, 0), 41);
        Check.due("full: it can change more", x.remove(0, 40), SegmentStore.OK);
        Check.due("full: 40", x.commit(0), SegmentStore.OK);
        Check.state("full: 40", x, 6, 41, 40, 0, 40);
        x.begin();
        for (int row = 0; row < 8; row++) {
            x.update(0, row, 0, -row);
        }
        Check.due("full: updates alone keep 40", x.commit(0), SegmentStore.OK);
        Check.state("full: updates alone keep 40", x, 7, 41, 40, 0, 40);
        Check.due("full: updated", x.cell(-1, 7, 0), -7);
        x.begin();
        x.remove(0, 0);
        x.insert(0, 3, 3, 3);
        Check.due("full: one out, one in", x.commit(0), SegmentStore.OK);
        Check.state("full: one out, one in", x, 8, 42, 40, 0, 40);
    }

    private static void fullCountsWhatOthersSee() {
        SegmentStore x = filled(38);
        x.begin();
        x.begin();
        x.update(1, 0, 0, 1);
        x.update(1, 1, 0, 1);
        x.update(1, 2, 0, 1);
        Check.due("others: 41", x.commit(1), SegmentStore.FULL);
        Check.due("others: 41 again", x.commit(1), SegmentStore.FULL);
        x.abort(0);
        Check.due("others: no other", x.commit(1), SegmentStore.OK);
        Check.state("others: no other", x, 6, 38, 38, 0, 38);

        x = filled(38);
        x.begin();
        x.begin();
        x.begin();
        x.update(1, 0, 0, 1);
        x.update(1, 1, 0, 1);
        Check.due("others: 40", x.commit(1), SegmentStore.OK);
        Check.state("others: 40", x, 6, 38, 40, 2, 38);
        x.begin();
        x.remove(1, 3);
        Check.due("others: a removed one is still seen", x.commit(1), SegmentStore.OK);
        Check.state("others: a removed one is still seen", x, 7, 38, 40, 2, 37);
        x.abort(0);
        Check.due("others: one still sees them", x.state(2), 40);
        x.abort(2);
        Check.due("others: no one sees them", x.state(2), 37);
        x.begin();
        x.insert(0, 1, 1, 1);
        x.insert(0, 1, 1, 1);
        x.insert(0, 1, 1, 1);
        Check.due("others: room again", x.commit(0), SegmentStore.OK);
        Check.state("others: room again", x, 8, 41, 40, 0, 40);
        Check.due("others: old rows stay", x.cell(-1, 37, 1), 370);
        Check.due("others: new rows", x.cell(-1, 40, 1), 1);
    }

    private static void fullWithoutChanges() {
        SegmentStore x = filled(40);
        x.begin();
        x.begin();
        int row = x.insert(0, 1, 1, 1);
        x.remove(0, row);
        Check.due("full: no changes", x.commit(0), SegmentStore.OK);
        Check.due("full: no changes", x.commit(1), SegmentStore.OK);
        Check.state("full: no changes", x, 5, 41, 40, 0, 40);
    }

    private static void abort() {
        SegmentStore x = filled(2);
        Check.due("abort: not open", x.abort(0), false);
        x.begin();
        x.begin();
        Check.due("abort: -1", x.abort(-1), false);
        Check.due("abort: 2", x.abort(2), false);
        Check.due("abort: 4", x.abort(4), false);
        Check.due("abort: least", x.abort(Integer.MIN_VALUE), false);
        x.insert(0, 1, 1, 1);
        x.update(0, 0, 0, 9);
        x.remove(0, 1);
        Check.due("abort", x.abort(0), true);
        Check.due("abort: twice", x.abort(0), false);
        Check.state("abort", x, 1, 3, 2, 1, 2);
        Check.due("abort: nothing asked of it", x.ask(0, 0, 0), 0);
        Check.due("abort: lost", x.cell(-1, 0, 0), 0);
        Check.due("abort: lost", x.cell(-1, 1, 0), 1);
        Check.due("abort: lost", x.cell(-1, 2, 0), NOT_SEEN);
        x.begin();
        Check.due("abort: lost for the next one too", x.cell(0, 0, 0), 0);
        Check.due("abort: lost for the next one too", x.cell(0, 2, 0), NOT_SEEN);
        Check.due("abort: a commit of nothing", x.commit(0), SegmentStore.OK);
        Check.due("abort: the clock", x.state(0), 1);
    }

    private static void noneBeforeFull() {
        SegmentStore x = filled(10);
        x.begin();
        for (int row = 0; row < 8; row++) {
            x.update(0, row, 0, 1);
        }
        x.remove(0, 7);
        Check.due("order: update of no row", x.update(0, 10, 0, 1), SegmentStore.NONE);
        Check.due("order: update of no column", x.update(0, 9, 3, 1), SegmentStore.NONE);
        Check.due("order: update of a removed row", x.update(0, 7, 0, 1), SegmentStore.NONE);
        Check.due("order: update", x.update(0, 9, 2, 1), SegmentStore.FULL);
        Check.due("order: remove of no row", x.remove(0, 10), SegmentStore.NONE);
        Check.due("order: remove of a removed row", x.remove(0, 7), SegmentStore.NONE);
        Check.due("order: remove", x.remove(0, 9), SegmentStore.FULL);
    }

    private static void conflictBeforeFull() {
        SegmentStore x = filled(40);
        x.begin();
        x.begin();
        x.update(1, 0, 0, 1);
        x.insert(1, 1, 1, 1);
        x.remove(0, 0);
        Check.due("order: first", x.commit(0), SegmentStore.OK);
        x.begin();
        Check.due("order: CONFLICT before FULL", x.commit(1), SegmentStore.CONFLICT);
        Check.due("order: it is not open", x.abort(1), false);
        Check.state("order", x, 6, 41, 39, 1, 39);
    }
}
