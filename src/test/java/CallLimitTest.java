/** 'What it is': an object answers as promised up to its 512th call. */
public final class CallLimitTest {
    public static void main(String[] args) {
        mostRows();
        mostCommits();
        mostVersionsOfOneRow();
        mostChangesOfOneTransaction();
        mostQuestions();
        laterCallsEnd();
        Check.end();
    }

    private static void atTheLimit(Store x) {
        Check.due("calls of the test", x.calls(), Store.MOST_CALLS);
    }

    private static void mostRows() {
        Check.sentence("An object is used for at most 512 calls (Rows inserted with nearly all.)");
        Store x = new Store();
        int row = 0;
        while (x.calls() < 500) {
            Check.due(x.begin(), 0);
            for (int i = 0; i < 8; i++) {
                Check.due(x.insert(0, row, -row, row), row);
                row++;
            }
            if (row < 400) {
                Check.due(x.abort(0), true);
            } else {
                Check.due(x.commit(0), Store.OK);
            }
        }
        Check.due(x.begin(), 0);
        Check.due(x.insert(0, 7, 8, 9), 400);
        Check.due(x.cell(-1, 399, 1), -399);
        Check.due(x.cell(-1, 391, 1), Check.NOT_SEEN);
        Check.due(x.update(0, 399, 0, 5), Store.OK);
        Check.due(x.remove(0, 400), Store.OK);
        Check.due(x.rank(0, 0, 399), 0);
        Check.due(x.commit(0), Store.OK);
        Check.due(x.order(-1, 0, 0), 399);
        Check.due(x.state(1), 401);
        Check.due(x.state(4), 8);
        Check.due(x.state(0), 2);
        atTheLimit(x);
    }

    private static void mostCommits() {
        Check.sentence("An object is used for at most 512 calls (Commits with nearly all.)");
        Store x = new Store();
        for (int time = 1; time <= 168; time++) {
            Check.due(x.begin(), 0);
            int done = time % 2 == 1 ? x.insert(0, time, time, time) : x.remove(0, time / 2 - 1);
            Check.due(done, time % 2 == 1 ? time / 2 : Store.OK);
            Check.due(x.commit(0), Store.OK);
        }
        Check.due(x.begin(), 0);
        Check.due(x.insert(0, 1, 2, 3), 84);
        Check.due(x.commit(0), Store.OK);
        Check.state(x, 169, 85, 1, 0, 1);
        atTheLimit(x);
    }

    private static void mostVersionsOfOneRow() {
        Check.sentence("An object is used for at most 512 calls (Versions with nearly all.)");
        Store x = Scenes.filled(1);
        Check.due(x.begin(), 0);
        for (int i = 1; i <= 168; i++) {
            Check.due(x.begin(), 1);
            Check.due(x.update(1, 0, 0, i), Store.OK);
            Check.due(x.commit(1), Store.OK);
        }
        Check.due(x.cell(0, 0, 0), 0);
        Check.due(x.cell(-1, 0, 0), 168);
        Check.due(x.state(0), 169);
        Check.due(x.state(2), 2);
        atTheLimit(x);
    }

    private static void mostChangesOfOneTransaction() {
        Check.sentence("An object is used for at most 512 calls (Of one transaction.)");
        Store x = Scenes.filled(8);
        Check.due(x.begin(), 0);
        for (int i = 0; i < 499; i++) {
            Check.due(x.update(0, i % 8, i % 3, i), Store.OK);
        }
        Check.due(x.commit(0), Store.OK);
        Check.due(x.cell(-1, 498 % 8, 498 % 3), 498);
        atTheLimit(x);
    }

    private static void mostQuestions() {
        Check.sentence("An object is used for at most 512 calls (Questions with nearly all.)");
        Store x = Scenes.filled(3);
        for (int i = 0; i < 507; i++) {
            Check.due(x.ask(-1, 1, i % 3), new long[] {3, 30, 300}[i % 3]);
        }
        atTheLimit(x);
    }

    /** What later calls answer is free, but rule 7 of LANGUAGE.md lets none of them throw. */
    private static void laterCallsEnd() {
        Check.sentence("No call may ever throw or fail to end, for any arguments in any state");
        SegmentStore x = new SegmentStore();
        int answered = 0;
        for (int i = 0; i < 20000; i++) {
            x.begin();
            x.insert(i % 4, i, -i, i);
            x.update(i % 4, i - i % 5, i % 3, i);
            x.remove(i % 4, i - i % 7);
            x.where(i % 2, i % 3, -i, i);
            x.ask(i % 5 - 1, i % 5, i % 3);
            x.group(i % 5 - 1, i % 3, i % 9, i % 4, i % 3);
            x.order(i % 5 - 1, i % 3, i % 9);
            x.rank(i % 5 - 1, i % 3, i);
            x.cell(i % 5 - 1, i, i % 3);
            x.state(i % 5);
            if (i % 6 == 0) {
                x.commit(i / 6 % 4);
            }
            if (i % 31 == 0) {
                x.abort(i / 31 % 4);
                x.pack();
            }
            answered++;
        }
        Check.due("rounds of later calls", answered, 20000);
    }
}
