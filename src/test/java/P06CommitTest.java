/** Promise 6: commit. */
public final class P06CommitTest {
    public static void main(String[] args) {
        notOpen();
        noSuchTransaction();
        conflictEndsIt();
        conflictLosesItsChanges();
        forty();
        fortyOne();
        fortyOneOfUpdates();
        ownStartIsNotCounted();
        countedOnce();
        removingIsNeverFull();
        fullAgainAndAgain();
        ok();
        withoutChanges();
        withoutChangesWhenFull();
        withoutChangesBehindOthers();
        Check.end();
    }

    private static void notOpen() {
        Check.sentence("NONE if t is not open. (Not begun, or ended.)");
        Unchanged.by(x -> { }, x -> x.commit(0), Store.NONE);
        Unchanged.by(Scenes::busy, x -> x.commit(2), Store.NONE);
        Unchanged.by(x -> {
            Scenes.eightChanged(x);
            x.abort(0);
        }, x -> x.commit(0), Store.NONE);
        Unchanged.by(x -> {
            Scenes.eightChanged(x);
            x.commit(0);
        }, x -> x.commit(0), Store.NONE);
        Unchanged.by(x -> {
            Scenes.overtaken(x);
            x.commit(1);
        }, x -> x.commit(1), Store.NONE);
    }

    private static void noSuchTransaction() {
        Check.sentence("NONE if t is not open. (TRANSACTIONS 0..3.)");
        for (int t : Check.outside(0, 3)) {
            Unchanged.by(Scenes::busy, x -> x.commit(t), Store.NONE);
        }
        Store x = new Store();
        for (int t = 0; t < 4; t++) {
            x.begin();
            x.insert(t, t, t, t);
        }
        Check.due(x.commit(-1), Store.NONE);
        Check.due(x.commit(4), Store.NONE);
        Check.due(x.commit(0), Store.OK);
        Check.due(x.commit(3), Store.OK);
        Check.state(x, 2, 4, 2, 2, 2);
    }

    private static void conflictEndsIt() {
        Check.sentence("CONFLICT: it is open no more");
        Store x = new Store();
        Scenes.overtaken(x);
        Check.due(x.state(3), 1);
        Check.due(x.commit(1), Store.CONFLICT);
        Check.due(x.state(3), 0);
        Check.due(x.commit(1), Store.NONE);
        Check.due(x.abort(1), false);
        Check.due(x.insert(1, 1, 1, 1), Store.NONE);
        Check.due(x.ask(1, 0, 0), 0);
        Check.due(x.cell(1, 0, 0), Check.NOT_SEEN);
    }

    private static void conflictLosesItsChanges() {
        Check.sentence("CONFLICT: it is open no more, and its changes are lost.");
        Unchanged.alike(Scenes::overtaken, x -> x.commit(1), Store.CONFLICT, x -> x.abort(1));
        Unchanged.alike(Scenes::busy, x -> x.commit(0), Store.CONFLICT, x -> x.abort(0));
        Store x = new Store();
        Scenes.overtaken(x);
        Check.due(x.commit(1), Store.CONFLICT);
        Check.state(x, 2, 5, 4, 0, 4);
        Check.due(x.cell(-1, 0, 0), 0);
        Check.due(x.cell(-1, 1, 0), 11);
        Check.due(x.cell(-1, 1, 1), 10);
        Check.due(x.cell(-1, 2, 0), 2);
        Check.due(x.cell(-1, 4, 0), Check.NOT_SEEN);
    }

    private static void forty() {
        Check.sentence("FULL if behind it more than 40 versions would be LIVE (40 are not more.)");
        for (int before = 32; before <= 39; before++) {
            Store x = Scenes.filled(before);
            x.begin();
            for (int row = before; row < 40; row++) {
                Check.due(x.insert(0, row, row, row), row);
            }
            Check.due(x.commit(0), Store.OK);
            Check.state(x, (before + 7) / 8 + 1, 40, 40, 0, 40);
            for (int row = before; row < 40; row++) {
                Check.due(x.cell(-1, row, 2), row);
            }
        }
    }

    private static void fortyOne() {
        Check.sentence("FULL if behind it more than 40 versions would be LIVE .. it stays open.");
        Unchanged.by(Scenes::fortyAndOne, x -> x.commit(0), Store.FULL);
        for (int i = 33; i <= 39; i++) {
            int before = i;
            Unchanged.by(x -> {
                Scenes.fill(x, before);
                x.begin();
                for (int row = before; row < 41; row++) {
                    x.insert(0, row, row, row);
                }
            }, x -> x.commit(0), Store.FULL);
        }
        Store x = new Store();
        Scenes.fortyAndOne(x);
        Check.due(x.commit(0), Store.FULL);
        Check.state(x, 5, 41, 40, 1, 40);
        Check.due(x.ask(0, 0, 0), 41);
        Check.due(x.cell(0, 40, 1), 400);
        Check.due(x.cell(-1, 40, 1), Check.NOT_SEEN);
        Check.due(x.remove(0, 7), Store.OK);
        Check.due(x.commit(0), Store.OK);
        Check.state(x, 6, 41, 40, 0, 40);
        Check.due(x.cell(-1, 40, 1), 400);
        Check.due(x.cell(-1, 7, 1), Check.NOT_SEEN);
    }

    private static void fortyOneOfUpdates() {
        Check.sentence("FULL if behind it more than 40 versions would be LIVE (Old ones that "
                + "another sees are.)");
        for (int updated = 1; updated <= 8; updated++) {
            for (int over = 0; over < 2; over++) {
                Store x = Scenes.filled(40 - updated + over);
                x.begin();
                x.begin();
                for (int row = 0; row < updated; row++) {
                    Check.due(x.update(1, row, 0, 50), Store.OK);
                }
                Check.due(x.commit(1), over == 0 ? Store.OK : Store.FULL);
                Check.due(x.state(2), over == 0 ? 40 : 40 - updated + 1);
                Check.due(x.cell(0, 0, 0), 0);
                Check.due(x.cell(-1, 0, 0), over == 0 ? 50 : 0);
                Check.due(x.abort(0), true);
                Check.due(x.commit(1), over == 0 ? Store.NONE : Store.OK);
                Check.due(x.state(2), 40 - updated + over);
                Check.due(x.cell(-1, 0, 0), 50);
            }
        }
    }

    private static void ownStartIsNotCounted() {
        Check.sentence("FULL if behind it more than 40 versions would be LIVE (the transaction not "
                + "being open then)");
        Store x = Scenes.filled(40);
        x.begin();
        for (int row = 0; row < 8; row++) {
            x.update(0, row, 0, -row);
        }
        Check.due(x.commit(0), Store.OK);
        Check.state(x, 6, 40, 40, 0, 40);
        Check.due(x.cell(-1, 7, 0), -7);

        for (int inserted = 1; inserted <= 2; inserted++) {
            Store y = Scenes.filled(39);
            y.begin();
            y.begin();
            y.update(1, 0, 0, 5);
            Check.due(y.commit(1), Store.OK);
            Check.state(y, 6, 39, 40, 1, 39);
            for (int i = 0; i < inserted; i++) {
                y.insert(0, 1, 1, 1);
            }
            Check.due(y.commit(0), inserted == 1 ? Store.OK : Store.FULL);
            Check.state(y, inserted == 1 ? 7 : 6, 39 + inserted, 40, inserted - 1,
                    inserted == 1 ? 40 : 39);
        }
    }

    private static void countedOnce() {
        Check.sentence("FULL if behind it more than 40 versions would be LIVE (Seen by many, a "
                + "version is one.)");
        Store x = Scenes.filled(38);
        x.begin();
        x.begin();
        x.begin();
        x.begin();
        x.update(3, 0, 0, 50);
        Check.due(x.commit(3), Store.OK);
        Check.state(x, 6, 38, 39, 3, 38);
        x.begin();
        x.update(3, 0, 0, 51);
        x.update(3, 1, 0, 52);
        Check.due(x.commit(3), Store.OK);
        Check.state(x, 7, 38, 40, 3, 38);
        x.begin();
        x.abort(2);
        Check.due(x.begin(), 2);
        x.update(2, 2, 0, 53);
        Check.due(x.commit(2), Store.FULL);
        Check.due(x.abort(1), true);
        Check.due(x.commit(2), Store.FULL);
        Check.due(x.abort(0), true);
        Check.due(x.commit(2), Store.OK);
        Check.state(x, 8, 38, 39, 1, 38);
    }

    private static void removingIsNeverFull() {
        Check.sentence("FULL if behind it more than 40 versions would be LIVE (A removed row has "
                + "none, but the one that another sees.)");
        Store x = Scenes.filled(40);
        x.begin();
        x.begin();
        for (int row = 0; row < 8; row++) {
            x.remove(1, row);
        }
        Check.due(x.commit(1), Store.OK);
        Check.state(x, 6, 40, 40, 1, 32);
        x.begin();
        x.insert(1, 1, 1, 1);
        Check.due(x.commit(1), Store.FULL);
        Check.due(x.remove(1, 10), Store.OK);
        Check.due(x.commit(1), Store.FULL);
        Check.due(x.commit(0), Store.OK);
        Check.state(x, 6, 41, 32, 1, 32);
        Check.due(x.commit(1), Store.OK);
        Check.state(x, 7, 41, 32, 0, 32);
    }

    private static void fullAgainAndAgain() {
        Check.sentence("FULL if behind it more than 40 versions would be LIVE .. it stays open.");
        Store x = new Store();
        Scenes.fortyAndOne(x);
        for (int i = 0; i < 20; i++) {
            Check.due(x.commit(0), Store.FULL);
        }
        Check.state(x, 5, 41, 40, 1, 40);
        for (int i = 0; i < 7; i++) {
            Check.due(x.insert(0, i, i, i), 41 + i);
            Check.due(x.commit(0), Store.FULL);
        }
        Check.due(x.insert(0, 1, 1, 1), Store.FULL);
        for (int row = 41; row < 48; row++) {
            Check.due(x.remove(0, row), Store.OK);
        }
        Check.due(x.commit(0), Store.FULL);
        Check.due(x.remove(0, 40), Store.OK);
        Check.due(x.commit(0), Store.OK);
        Check.state(x, 5, 48, 40, 0, 40);
    }

    private static void ok() {
        Check.sentence("Else OK, and it is open no more.");
        Store x = Scenes.filled(2);
        x.begin();
        x.begin();
        x.update(0, 0, 0, 11);
        x.remove(0, 1);
        x.insert(0, 7, 8, 9);
        Check.due(x.commit(0), Store.OK);
        Check.due(x.commit(0), Store.NONE);
        Check.due(x.insert(0, 1, 1, 1), Store.NONE);
        Check.due(x.ask(0, 0, 0), 0);
        Check.state(x, 2, 3, 4, 1, 2);
        Check.due(x.cell(1, 0, 0), 0);
        Check.due(x.cell(1, 1, 0), 1);
        Check.due(x.cell(1, 2, 0), Check.NOT_SEEN);
        Check.due(x.cell(-1, 0, 0), 11);
        Check.due(x.cell(-1, 0, 1), 0);
        Check.due(x.cell(-1, 1, 0), Check.NOT_SEEN);
        Check.due(x.cell(-1, 2, 2), 9);
        Check.due(x.commit(1), Store.OK);
        Check.state(x, 2, 3, 2, 0, 2);
    }

    private static void withoutChanges() {
        Check.sentence("Without changes always OK. (Nothing done, or inserted and removed.)");
        Unchanged.alike(Scenes::busy, x -> x.commit(3), Store.OK, x -> x.abort(3));
        Unchanged.alike(x -> {
            Scenes.fill(x, 3);
            x.begin();
        }, x -> x.commit(0), Store.OK, x -> x.abort(0));
        Unchanged.alike(x -> {
            Scenes.fill(x, 3);
            x.begin();
            for (int i = 0; i < 8; i++) {
                int row = x.insert(0, 1, 2, 3);
                x.update(0, row, 0, 2);
                x.remove(0, row);
            }
            x.insert(0, 1, 2, 3);
        }, x -> x.commit(0), Store.OK, x -> x.abort(0));
        Store x = new Store();
        x.begin();
        Check.due(x.commit(0), Store.OK);
        Check.state(x, 0, 0, 0, 0, 0);
        x.begin();
        Check.due(x.update(0, 0, 0, 1), Store.NONE);
        Check.due(x.remove(0, 0), Store.NONE);
        Check.due(x.commit(0), Store.OK);
        Check.state(x, 0, 0, 0, 0, 0);
    }

    private static void withoutChangesWhenFull() {
        Check.sentence("Without changes always OK. (When 40 are LIVE.)");
        Store x = Scenes.filled(40);
        x.begin();
        x.begin();
        int row = x.insert(0, 1, 1, 1);
        Check.due(x.commit(0), Store.FULL);
        x.remove(0, row);
        Check.due(x.commit(0), Store.OK);
        Check.due(x.commit(1), Store.OK);
        Check.state(x, 5, 41, 40, 0, 40);
    }

    private static void withoutChangesBehindOthers() {
        Check.sentence("Without changes always OK. (Though others changed what it sees.)");
        Store x = Scenes.filled(3);
        x.begin();
        x.begin();
        x.update(1, 0, 0, 5);
        x.remove(1, 1);
        Check.due(x.commit(1), Store.OK);
        int row = x.insert(0, 1, 1, 1);
        x.remove(0, row);
        Check.due(x.commit(0), Store.OK);
        Check.state(x, 2, 4, 2, 0, 2);
    }
}
