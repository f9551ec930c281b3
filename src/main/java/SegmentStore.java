public final class SegmentStore {
    public static final int OK = 0, NONE = -1, CONFLICT = -2, FULL = -3;

    private static final int COLUMNS = 3;
    private static final int TRANSACTIONS = 4;
    private static final int CONDITIONS = 2;
    private static final int MOST_CHANGED = 8;
    private static final int MOST_LIVE = 40;
    private static final int CHANGE_SLOTS = TRANSACTIONS * MOST_CHANGED;
    private static final int MOST_SEEN = MOST_LIVE + MOST_CHANGED;
    private static final int VERSION_INTS = MOST_LIVE * COLUMNS;
    private static final int CHANGE_INTS = CHANGE_SLOTS * COLUMNS;
    private static final int SEEN_INTS = MOST_SEEN * COLUMNS;
    private static final int NO_ONE = -1;
    private static final int NOT_FOUND = -1;
    private static final int FOREVER = 2147483647;
    private static final long NOT_SEEN = 10000000000L;

    private int clock = 0;
    private int rowCount = 0;

    // A version that is not LIVE can never be seen again, and the one that an
    // open transaction saw at its START stays LIVE while it is open, so that
    // 40 places are enough for every answer, CONFLICT included.
    private int versionCount = 0;
    private final int[] versionRow = new int[MOST_LIVE];
    private final int[] versionFrom = new int[MOST_LIVE];
    private final int[] versionTo = new int[MOST_LIVE];
    private final int[] versionInts = new int[VERSION_INTS];

    private final boolean[] open = new boolean[TRANSACTIONS];
    private final int[] start = new int[TRANSACTIONS];

    // Transaction t has the slots from t * MOST_CHANGED on.
    private final int[] changeCount = new int[TRANSACTIONS];
    private final int[] changeRow = new int[CHANGE_SLOTS];
    private final boolean[] changeInserted = new boolean[CHANGE_SLOTS];
    private final boolean[] changeGone = new boolean[CHANGE_SLOTS];
    private final int[] changeInts = new int[CHANGE_INTS];

    private final boolean[] conditionSet = new boolean[CONDITIONS];
    private final int[] conditionColumn = new int[CONDITIONS];
    private final int[] conditionLeast = new int[CONDITIONS];
    private final int[] conditionMost = new int[CONDITIONS];

    // The rows in question, gathered anew for each question.
    private int foundCount = 0;
    private final int[] foundRow = new int[MOST_SEEN];
    private final int[] foundInts = new int[SEEN_INTS];

    public SegmentStore() {
    }

    public int begin() {
        for (int t = 0; t < TRANSACTIONS; t++) {
            if (!open[t]) {
                open[t] = true;
                start[t] = clock;
                changeCount[t] = 0;
                return t;
            }
        }
        return NONE;
    }

    public int insert(int t, int a, int b, int c) {
        if (!isOpen(t)) {
            return NONE;
        }
        if (changeCount[t] >= MOST_CHANGED) {
            return FULL;
        }
        int row = rowCount;
        rowCount++;
        int slot = addChange(t, row);
        changeInserted[slot] = true;
        changeInts[slot * COLUMNS] = a;
        changeInts[slot * COLUMNS + 1] = b;
        changeInts[slot * COLUMNS + 2] = c;
        return row;
    }

    public int update(int t, int row, int column, int v) {
        if (!isOpen(t) || !isColumn(column)) {
            return NONE;
        }
        int slot = slotToChange(t, row);
        if (slot < 0) {
            return slot;
        }
        changeInts[slot * COLUMNS + column] = v;
        return OK;
    }

    public int remove(int t, int row) {
        if (!isOpen(t)) {
            return NONE;
        }
        int slot = slotToChange(t, row);
        if (slot < 0) {
            return slot;
        }
        changeGone[slot] = true;
        return OK;
    }

    public int commit(int t) {
        if (!isOpen(t)) {
            return NONE;
        }
        if (isOvertaken(t)) {
            open[t] = false;
            return CONFLICT;
        }
        if (!hasChanges(t)) {
            open[t] = false;
            return OK;
        }
        if (countLiveBehind(t) > MOST_LIVE) {
            return FULL;
        }
        open[t] = false;
        clock++;
        endChangedVersions(t);
        dropDeadVersions();
        addNewVersions(t);
        return OK;
    }

    public boolean abort(int t) {
        if (!isOpen(t)) {
            return false;
        }
        open[t] = false;
        return true;
    }

    public boolean where(int k, int column, int least, int most) {
        if (k < 0 || k >= CONDITIONS) {
            return false;
        }
        if (column == -1) {
            conditionSet[k] = false;
            return true;
        }
        if (!isColumn(column)) {
            return false;
        }
        conditionSet[k] = true;
        conditionColumn[k] = column;
        conditionLeast[k] = least;
        conditionMost[k] = most;
        return true;
    }

    public long ask(int t, int what, int column) {
        if (!canAsk(t) || !isColumn(column)) {
            return 0;
        }
        findRows(t);
        switch (what) {
            case 0:
                return foundCount;
            case 1:
                return sumOf(column);
            case 2:
                return leastOf(column);
            case 3:
                return greatestOf(column);
            case 4:
                return countDifferent(column);
            default:
                return 0;
        }
    }

    public long group(int t, int by, int k, int what, int column) {
        if (!canAsk(t) || !isColumn(by) || !isColumn(column)) {
            return 0;
        }
        findRows(t);
        int member = findGroupMember(by, k);
        if (member < 0) {
            return 0;
        }
        int value = foundInts[member * COLUMNS + by];
        keepOnly(by, value);
        switch (what) {
            case 0:
                return value;
            case 1:
                return foundCount;
            case 2:
                return sumOf(column);
            case 3:
                return greatestOf(column);
            default:
                return 0;
        }
    }

    public int order(int t, int column, int k) {
        if (!canAsk(t) || !isColumn(column)) {
            return NONE;
        }
        findRows(t);
        for (int i = 0; i < foundCount; i++) {
            if (countBefore(i, column) == k) {
                return foundRow[i];
            }
        }
        return NONE;
    }

    public int rank(int t, int column, int row) {
        if (!canAsk(t) || !isColumn(column)) {
            return NONE;
        }
        findRows(t);
        for (int i = 0; i < foundCount; i++) {
            if (foundRow[i] == row) {
                return countBefore(i, column);
            }
        }
        return NONE;
    }

    public long cell(int t, int row, int column) {
        if (!canAsk(t) || !isColumn(column)) {
            return NOT_SEEN;
        }
        int slot = findChange(t, row);
        if (slot >= 0) {
            return changeGone[slot] ? NOT_SEEN : changeInts[slot * COLUMNS + column];
        }
        int time = timeSeen(t);
        int version = findVersion(row, time);
        return version < 0 ? NOT_SEEN : versionInts[version * COLUMNS + column];
    }

    public void pack() {
        dropDeadVersions();
    }

    public int state(int what) {
        switch (what) {
            case 0:
                return clock;
            case 1:
                return rowCount;
            case 2:
                return countLive();
            case 3:
                return countOpen();
            case 4:
                return countThere();
            default:
                return -1;
        }
    }

    private boolean isOpen(int t) {
        return t >= 0 && t < TRANSACTIONS && open[t];
    }

    private boolean canAsk(int t) {
        return t == NO_ONE || isOpen(t);
    }

    private boolean isColumn(int column) {
        return column >= 0 && column < COLUMNS;
    }

    private int timeSeen(int t) {
        return t == NO_ONE ? clock : start[t];
    }

    private boolean holds(int version, int time) {
        return versionFrom[version] <= time && time < versionTo[version];
    }

    private int findVersion(int row, int time) {
        for (int i = 0; i < versionCount; i++) {
            if (versionRow[i] == row && holds(i, time)) {
                return i;
            }
        }
        return NOT_FOUND;
    }

    private int findChange(int t, int row) {
        if (t == NO_ONE) {
            return NOT_FOUND;
        }
        for (int i = 0; i < changeCount[t]; i++) {
            int slot = t * MOST_CHANGED + i;
            if (changeRow[slot] == row) {
                return slot;
            }
        }
        return NOT_FOUND;
    }

    private int addChange(int t, int row) {
        int slot = t * MOST_CHANGED + changeCount[t];
        changeCount[t]++;
        changeRow[slot] = row;
        changeInserted[slot] = false;
        changeGone[slot] = false;
        return slot;
    }

    // The slot of a row that t sees, which becomes a changed one if it was
    // none before; else NONE or FULL, in the order in which they are due.
    private int slotToChange(int t, int row) {
        int slot = findChange(t, row);
        if (slot >= 0) {
            return changeGone[slot] ? NONE : slot;
        }
        int version = findVersion(row, start[t]);
        if (version < 0) {
            return NONE;
        }
        if (changeCount[t] >= MOST_CHANGED) {
            return FULL;
        }
        slot = addChange(t, row);
        for (int column = 0; column < COLUMNS; column++) {
            changeInts[slot * COLUMNS + column] = versionInts[version * COLUMNS + column];
        }
        return slot;
    }

    // Rows that t inserted need no exception here: they have no version yet.
    private boolean isOvertaken(int t) {
        for (int i = 0; i < versionCount; i++) {
            boolean begins = versionFrom[i] > start[t];
            boolean ends = versionTo[i] != FOREVER && versionTo[i] > start[t];
            if ((begins || ends) && findChange(t, versionRow[i]) >= 0) {
                return true;
            }
        }
        return false;
    }

    private boolean hasChanges(int t) {
        for (int i = 0; i < changeCount[t]; i++) {
            int slot = t * MOST_CHANGED + i;
            if (!changeInserted[slot] || !changeGone[slot]) {
                return true;
            }
        }
        return false;
    }

    private int countLiveBehind(int t) {
        int count = 0;
        for (int i = 0; i < versionCount; i++) {
            boolean goesOn = versionTo[i] == FOREVER && findChange(t, versionRow[i]) < 0;
            if (goesOn || isSeenByOpen(i, t)) {
                count++;
            }
        }
        for (int i = 0; i < changeCount[t]; i++) {
            if (!changeGone[t * MOST_CHANGED + i]) {
                count++;
            }
        }
        return count;
    }

    private boolean isSeenByOpen(int version, int except) {
        for (int t = 0; t < TRANSACTIONS; t++) {
            if (open[t] && t != except && holds(version, start[t])) {
                return true;
            }
        }
        return false;
    }

    private boolean isLive(int version) {
        return holds(version, clock) || isSeenByOpen(version, NO_ONE);
    }

    private void endChangedVersions(int t) {
        for (int i = 0; i < versionCount; i++) {
            if (versionTo[i] == FOREVER && findChange(t, versionRow[i]) >= 0) {
                versionTo[i] = clock;
            }
        }
    }

    private void dropDeadVersions() {
        int kept = 0;
        for (int i = 0; i < versionCount; i++) {
            if (isLive(i)) {
                moveVersion(i, kept);
                kept++;
            }
        }
        versionCount = kept;
    }

    private void moveVersion(int source, int target) {
        versionRow[target] = versionRow[source];
        versionFrom[target] = versionFrom[source];
        versionTo[target] = versionTo[source];
        for (int column = 0; column < COLUMNS; column++) {
            versionInts[target * COLUMNS + column] = versionInts[source * COLUMNS + column];
        }
    }

    private void addNewVersions(int t) {
        for (int i = 0; i < changeCount[t]; i++) {
            int slot = t * MOST_CHANGED + i;
            if (!changeGone[slot] && versionCount < MOST_LIVE) {
                addVersion(slot);
            }
        }
    }

    private void addVersion(int slot) {
        versionRow[versionCount] = changeRow[slot];
        versionFrom[versionCount] = clock;
        versionTo[versionCount] = FOREVER;
        for (int column = 0; column < COLUMNS; column++) {
            versionInts[versionCount * COLUMNS + column] = changeInts[slot * COLUMNS + column];
        }
        versionCount++;
    }

    private void findRows(int t) {
        int time = timeSeen(t);
        foundCount = 0;
        for (int i = 0; i < versionCount; i++) {
            if (holds(i, time) && findChange(t, versionRow[i]) < 0) {
                int at = i * COLUMNS;
                addFound(versionRow[i], versionInts[at], versionInts[at + 1], versionInts[at + 2]);
            }
        }
        if (t == NO_ONE) {
            return;
        }
        for (int i = 0; i < changeCount[t]; i++) {
            int slot = t * MOST_CHANGED + i;
            if (!changeGone[slot]) {
                int at = slot * COLUMNS;
                addFound(changeRow[slot], changeInts[at], changeInts[at + 1], changeInts[at + 2]);
            }
        }
    }

    private void addFound(int row, int a, int b, int c) {
        if (foundCount >= MOST_SEEN) {
            return;
        }
        foundRow[foundCount] = row;
        foundInts[foundCount * COLUMNS] = a;
        foundInts[foundCount * COLUMNS + 1] = b;
        foundInts[foundCount * COLUMNS + 2] = c;
        if (passes(foundCount)) {
            foundCount++;
        }
    }

    private boolean passes(int found) {
        for (int k = 0; k < CONDITIONS; k++) {
            int value = foundInts[found * COLUMNS + conditionColumn[k]];
            if (conditionSet[k] && (value < conditionLeast[k] || value > conditionMost[k])) {
                return false;
            }
        }
        return true;
    }

    private void keepOnly(int by, int value) {
        int kept = 0;
        for (int i = 0; i < foundCount; i++) {
            if (foundInts[i * COLUMNS + by] == value) {
                foundRow[kept] = foundRow[i];
                for (int column = 0; column < COLUMNS; column++) {
                    foundInts[kept * COLUMNS + column] = foundInts[i * COLUMNS + column];
                }
                kept++;
            }
        }
        foundCount = kept;
    }

    private long sumOf(int column) {
        long sum = 0;
        for (int i = 0; i < foundCount; i++) {
            sum += foundInts[i * COLUMNS + column];
        }
        return sum;
    }

    private int leastOf(int column) {
        int least = 0;
        for (int i = 0; i < foundCount; i++) {
            int value = foundInts[i * COLUMNS + column];
            if (i == 0 || value < least) {
                least = value;
            }
        }
        return least;
    }

    private int greatestOf(int column) {
        int greatest = 0;
        for (int i = 0; i < foundCount; i++) {
            int value = foundInts[i * COLUMNS + column];
            if (i == 0 || value > greatest) {
                greatest = value;
            }
        }
        return greatest;
    }

    private boolean isFirstOfValue(int found, int column) {
        int value = foundInts[found * COLUMNS + column];
        for (int i = 0; i < found; i++) {
            if (foundInts[i * COLUMNS + column] == value) {
                return false;
            }
        }
        return true;
    }

    private int countDifferent(int column) {
        int count = 0;
        for (int i = 0; i < foundCount; i++) {
            if (isFirstOfValue(i, column)) {
                count++;
            }
        }
        return count;
    }

    private int countDifferentBelow(int column, int value) {
        int count = 0;
        for (int i = 0; i < foundCount; i++) {
            if (foundInts[i * COLUMNS + column] < value && isFirstOfValue(i, column)) {
                count++;
            }
        }
        return count;
    }

    private int findGroupMember(int by, int k) {
        for (int i = 0; i < foundCount; i++) {
            if (countDifferentBelow(by, foundInts[i * COLUMNS + by]) == k) {
                return i;
            }
        }
        return NOT_FOUND;
    }

    private int countBefore(int found, int column) {
        int value = foundInts[found * COLUMNS + column];
        int count = 0;
        for (int i = 0; i < foundCount; i++) {
            int other = foundInts[i * COLUMNS + column];
            if (other < value || (other == value && foundRow[i] < foundRow[found])) {
                count++;
            }
        }
        return count;
    }

    private int countLive() {
        int count = 0;
        for (int i = 0; i < versionCount; i++) {
            if (isLive(i)) {
                count++;
            }
        }
        return count;
    }

    private int countOpen() {
        int count = 0;
        for (int t = 0; t < TRANSACTIONS; t++) {
            if (open[t]) {
                count++;
            }
        }
        return count;
    }

    private int countThere() {
        int count = 0;
        for (int i = 0; i < versionCount; i++) {
            if (holds(i, clock)) {
                count++;
            }
        }
        return count;
    }
}
