/** Promise 16: order and limits. */
public final class P16OrderAndLimitsTest {
    public static void main(String[] args) {
        updateNoneBeforeFull();
        removeNoneBeforeFull();
        conflictBeforeFull();
        conflictBeforeFullByUpdates();
        fullWithoutConflict();
        Check.end();
    }

    private static void updateNoneBeforeFull() {
        Check.sentence("update, remove: NONE is tested before FULL. (update)");
        Unchanged.by(Scenes::eightChanged, x -> x.update(0, 13, 0, 1), Store.NONE);
        Unchanged.by(Scenes::eightChanged, x -> x.update(0, -1, 0, 1), Store.NONE);
        Unchanged.by(Scenes::eightChanged, x -> x.update(0, 3, 0, 1), Store.NONE);
        Unchanged.by(Scenes::eightChanged, x -> x.update(0, 9, 3, 1), Store.NONE);
        Unchanged.by(Scenes::eightChanged, x -> x.update(0, 9, -1, 1), Store.NONE);
        Unchanged.by(Scenes::eightChanged, x -> x.update(1, 9, 0, 1), Store.NONE);
        Unchanged.by(Scenes::eightChanged, x -> x.update(0, 9, 2, 1), Store.FULL);
        Unchanged.by(x -> {
            Scenes.eightChanged(x);
            x.begin();
            x.insert(1, 1, 1, 1);
            x.commit(1);
        }, x -> x.update(0, 13, 0, 1), Store.NONE);
    }

    private static void removeNoneBeforeFull() {
        Check.sentence("update, remove: NONE is tested before FULL. (remove)");
        Unchanged.by(Scenes::eightChanged, x -> x.remove(0, 13), Store.NONE);
        Unchanged.by(Scenes::eightChanged, x -> x.remove(0, -1), Store.NONE);
        Unchanged.by(Scenes::eightChanged, x -> x.remove(0, 3), Store.NONE);
        Unchanged.by(Scenes::eightChanged, x -> x.remove(1, 9), Store.NONE);
        Unchanged.by(Scenes::eightChanged, x -> x.remove(0, 9), Store.FULL);
        Unchanged.by(x -> {
            Scenes.eightChanged(x);
            x.begin();
            x.insert(1, 1, 1, 1);
            x.commit(1);
        }, x -> x.remove(0, 13), Store.NONE);
    }

    /** 39 rows are there; 1 has changed row 0, which another did first, and inserted two rows. */
    private static void overtakenAndTooMany(Store x) {
        Scenes.fill(x, 40);
        x.begin();
        x.begin();
        x.update(1, 0, 0, 1);
        x.insert(1, 1, 1, 1);
        x.insert(1, 1, 1, 1);
        x.remove(0, 0);
        Check.due(x.commit(0), Store.OK);
    }

    private static void conflictBeforeFull() {
        Check.sentence("commit: CONFLICT is tested before FULL.");
        Unchanged.alike(P16OrderAndLimitsTest::overtakenAndTooMany,
                x -> x.commit(1), Store.CONFLICT, x -> x.abort(1));
        Store x = new Store();
        overtakenAndTooMany(x);
        Check.due(x.commit(1), Store.CONFLICT);
        Check.due(x.abort(1), false);
        Check.state(x, 6, 42, 39, 0, 39);
    }

    private static void conflictBeforeFullByUpdates() {
        Check.sentence("commit: CONFLICT is tested before FULL. (Others see the old versions.)");
        Store x = Scenes.filled(38);
        x.begin();
        x.begin();
        x.begin();
        x.update(1, 0, 0, 1);
        for (int row = 0; row < 8; row++) {
            x.update(2, row, 1, 1);
        }
        Check.due(x.commit(1), Store.OK);
        Check.due(x.state(2), 39);
        Check.due(x.commit(2), Store.CONFLICT);
        Check.state(x, 6, 38, 39, 1, 38);
    }

    private static void fullWithoutConflict() {
        Check.sentence("commit: CONFLICT is tested before FULL. (FULL, and then CONFLICT.)");
        Store x = Scenes.filled(40);
        x.begin();
        x.begin();
        x.update(1, 0, 0, 1);
        Check.due(x.commit(1), Store.FULL);
        Check.due(x.remove(0, 0), Store.OK);
        Check.due(x.commit(0), Store.OK);
        Check.due(x.commit(1), Store.CONFLICT);
        Check.state(x, 6, 40, 39, 0, 39);
    }
}
