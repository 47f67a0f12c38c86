/** A wall of 24 hooks for lockers, each of which is held while something is done to it. */
public final class LockerWall {
    public static final int BAD = -1, BARE = -2, SHUT = -3, BLOCKED = -4, FULL = -5, EMPTY = -6, WRONG = -7, NONE = -8;

    private static final int HOOKS = 24;
    private static final int MOST_ITEMS = 10;
    private static final int MOST_WEIGHT = 1000;
    private static final int MOST_WRONG_TRIES = 3;
    private static final int MOST_IN_A_ROW = 12;

    // The ways to let a locker go; told() shows these numbers as LEFT.
    private static final int AT_THE_END = 1;
    private static final int BY_AN_ANSWER = 2;
    private static final int OUT_OF_THE_LOOP = 3;
    private static final int BY_A_THROW = 4;

    // A bare hook is null.
    private final Locker[] hooks;
    private int latchHolds;

    public LockerWall() {
        hooks = new Locker[HOOKS];
        latchHolds = 0;
    }

    public int mount(int i, int room, int code) {
        if (!isHook(i) || !isWeight(room)) {
            return BAD;
        }
        if (hooks[i] != null) {
            return FULL;
        }
        hooks[i] = new Locker(room, code);
        return 1;
    }

    public int unmount(int i) {
        if (!isHook(i)) {
            return BAD;
        }
        latchHolds++;
        Locker locker = holdAt(i);
        if (locker == null) {
            return BARE;
        }
        if (locker.count > 0) {
            return locker.letGo(BY_AN_ANSWER, EMPTY);
        }
        hooks[i] = null;
        return locker.letGo(AT_THE_END, locker.holds);
    }

    public int open(int i, int code) {
        if (!isHook(i)) {
            return BAD;
        }
        Locker locker = holdAt(i);
        if (locker == null) {
            return BARE;
        }
        if (locker.wrongTries >= MOST_WRONG_TRIES) {
            return locker.letGo(BY_AN_ANSWER, BLOCKED);
        }
        if (locker.code != code) {
            locker.wrongTries++;
            return locker.letGo(BY_A_THROW, WRONG);
        }
        locker.isOpen = true;
        locker.wrongTries = 0;
        return locker.letGo(AT_THE_END, 1);
    }

    public int shut(int i) {
        if (!isHook(i)) {
            return BAD;
        }
        Locker locker = holdAt(i);
        if (locker == null) {
            return BARE;
        }
        if (!locker.isOpen) {
            return locker.letGo(BY_AN_ANSWER, SHUT);
        }
        locker.isOpen = false;
        return locker.letGo(AT_THE_END, 1);
    }

    public int put(int i, int w) {
        if (!isHook(i) || !isWeight(w)) {
            return BAD;
        }
        Locker locker = holdAt(i);
        if (locker == null) {
            return BARE;
        }
        if (!locker.isOpen) {
            return locker.letGo(BY_AN_ANSWER, SHUT);
        }
        if (!locker.accept(w)) {
            return locker.letGo(BY_A_THROW, FULL);
        }
        return locker.letGo(AT_THE_END, locker.count);
    }

    public int take(int i) {
        if (!isHook(i)) {
            return BAD;
        }
        Locker locker = holdAt(i);
        if (locker == null) {
            return BARE;
        }
        if (!locker.isOpen) {
            return locker.letGo(BY_AN_ANSWER, SHUT);
        }
        if (locker.count == 0) {
            return locker.letGo(BY_A_THROW, EMPTY);
        }
        return locker.letGo(AT_THE_END, locker.removeLast());
    }

    public int move(int i, int j) {
        return actOnTwo(i, j, false);
    }

    public int swap(int i, int j) {
        return actOnTwo(i, j, true);
    }

    public int find(int w) {
        if (!isWeight(w)) {
            return BAD;
        }
        for (int h = 0; h < HOOKS; h++) {
            Locker locker = holdAt(h);
            if (locker == null) {
                continue;
            }
            if (!locker.isOpen) {
                locker.letGo(OUT_OF_THE_LOOP, NONE);
                continue;
            }
            if (locker.contains(w)) {
                return locker.letGo(OUT_OF_THE_LOOP, h);
            }
            locker.letGo(AT_THE_END, NONE);
        }
        return NONE;
    }

    public int weigh(int i, int n) {
        if (!isHook(i) || n < 0 || n > MOST_IN_A_ROW) {
            return BAD;
        }
        latchHolds++;
        int held = holdRow(i, n);
        if (held < n) {
            letGoRow(i, held, BY_A_THROW);
            return BARE;
        }
        return letGoRow(i, n, BY_AN_ANSWER);
    }

    public int drop(int i, int n, int m) {
        if (!isHook(i) || n < 1 || n > MOST_ITEMS) {
            return BAD;
        }
        Locker locker = holdAt(i);
        if (locker == null) {
            return BARE;
        }
        if (!locker.isOpen) {
            return locker.letGo(BY_AN_ANSWER, SHUT);
        }
        int gone = 0;
        for (int k = 0; k < n && locker.count > 0; k++) {
            gone += locker.removeLast();
            if (gone >= m) {
                break;
            }
        }
        return locker.letGo(AT_THE_END, gone);
    }

    public long tally() {
        latchHolds++;
        long sum = 0;
        for (int h = 0; h < HOOKS; h++) {
            Locker locker = holdAt(h);
            if (locker != null) {
                sum += (h + 1L) * locker.letGo(AT_THE_END, locker.weight());
            }
        }
        return sum;
    }

    public int first(int w) {
        if (w < 0) {
            return BAD;
        }
        for (int h = 0; h < HOOKS; h++) {
            Locker locker = holdAt(h);
            if (locker == null) {
                continue;
            }
            if (locker.weight() >= w) {
                return locker.letGo(BY_AN_ANSWER, h);
            }
            locker.letGo(AT_THE_END, NONE);
        }
        return NONE;
    }

    public int recode(int i, int code) {
        if (!isHook(i)) {
            return BAD;
        }
        Locker outer = holdAt(i);
        Locker middle = holdAt(i);
        Locker inner = holdAt(i);
        if (outer == null || middle == null || inner == null) {
            return BARE;
        }
        int how = BY_A_THROW;
        int answer = WRONG;
        if (inner.isOpen) {
            inner.code = code;
            how = BY_AN_ANSWER;
            answer = 1;
        }
        inner.letGo(how, answer);
        middle.letGo(how, answer);
        return outer.letGo(how, answer);
    }

    public int told(int i, int what) {
        if (!isHook(i) || what < 0 || what > 8) {
            return BAD;
        }
        Locker locker = hooks[i];
        if (locker == null) {
            return what == 0 ? 0 : BARE;
        }
        return locker.fact(what);
    }

    public int item(int i, int k) {
        if (!isHook(i)) {
            return BAD;
        }
        Locker locker = hooks[i];
        if (locker == null) {
            return BARE;
        }
        return locker.weightOf(k);
    }

    public int latch() {
        return latchHolds;
    }

    private static boolean isHook(int i) {
        return i >= 0 && i < HOOKS;
    }

    // A room has the same bounds as a weight.
    private static boolean isWeight(int w) {
        return w >= 1 && w <= MOST_WEIGHT;
    }

    /** Null where the hook is bare: nothing is held there then. */
    private Locker holdAt(int i) {
        if (!isHook(i)) {
            return null;
        }
        Locker locker = hooks[i];
        if (locker != null) {
            locker.holds++;
        }
        return locker;
    }

    // Both acts hold two lockers and refuse in the same way before they differ.
    private int actOnTwo(int i, int j, boolean exchanging) {
        if (!isHook(i) || !isHook(j)) {
            return BAD;
        }
        Locker outer = holdAt(i);
        if (outer == null) {
            return BARE;
        }
        Locker inner = holdAt(j);
        if (inner == null) {
            return outer.letGo(BY_A_THROW, BARE);
        }
        if (!outer.isOpen || !inner.isOpen) {
            return letGoTwo(outer, inner, BY_AN_ANSWER, SHUT);
        }
        return exchanging ? exchangeHeld(outer, inner) : moveHeld(outer, inner);
    }

    private static int moveHeld(Locker outer, Locker inner) {
        if (outer.count == 0) {
            return letGoTwo(outer, inner, BY_A_THROW, EMPTY);
        }
        // It goes before it comes: a full locker has room for its own last item.
        int w = outer.removeLast();
        if (!inner.accept(w)) {
            outer.accept(w);
            return letGoTwo(outer, inner, BY_A_THROW, FULL);
        }
        return letGoTwo(outer, inner, AT_THE_END, w);
    }

    private static int exchangeHeld(Locker outer, Locker inner) {
        if (outer.weight() > inner.room || inner.weight() > outer.room) {
            return letGoTwo(outer, inner, BY_A_THROW, FULL);
        }
        outer.exchangeItems(inner);
        return letGoTwo(outer, inner, AT_THE_END, outer.count + inner.count);
    }

    private static int letGoTwo(Locker outer, Locker inner, int how, int answer) {
        inner.letGo(how, answer);
        return outer.letGo(how, answer);
    }

    /** How many were held before a bare hook came, or n. */
    private int holdRow(int i, int n) {
        for (int k = 0; k < n; k++) {
            if (holdAt((i + k) % HOOKS) == null) {
                return k;
            }
        }
        return n;
    }

    /** What the items of those weigh that are let go, the innermost first. */
    private int letGoRow(int i, int held, int how) {
        int sum = 0;
        for (int k = held - 1; k >= 0; k--) {
            int h = (i + k) % HOOKS;
            Locker locker = isHook(h) ? hooks[h] : null;
            if (locker != null) {
                sum += locker.letGo(how, locker.weight());
            }
        }
        return sum;
    }

    private static final class Locker {
        final int room;
        int code;
        boolean isOpen;
        int wrongTries;
        int[] weights;
        int count;
        int holds;
        int left;

        Locker(int room, int code) {
            this.room = room;
            this.code = code;
            this.weights = new int[MOST_ITEMS];
        }

        // It hands the answer through, so that no way out of an act forgets to let go.
        int letGo(int how, int answer) {
            left = how;
            return answer;
        }

        boolean accept(int w) {
            if (count >= MOST_ITEMS || weight() + w > room) {
                return false;
            }
            weights[count] = w;
            count++;
            return true;
        }

        int removeLast() {
            if (count <= 0) {
                return 0;
            }
            count--;
            return weights[count];
        }

        int weight() {
            int sum = 0;
            for (int k = 0; k < count; k++) {
                sum += weights[k];
            }
            return sum;
        }

        boolean contains(int w) {
            for (int k = 0; k < count; k++) {
                if (weights[k] == w) {
                    return true;
                }
            }
            return false;
        }

        int weightOf(int k) {
            return k >= 0 && k < count ? weights[k] : NONE;
        }

        void exchangeItems(Locker other) {
            int[] itsWeights = other.weights;
            int itsCount = other.count;
            other.weights = weights;
            other.count = count;
            weights = itsWeights;
            count = itsCount;
        }

        int fact(int what) {
            switch (what) {
                case 0: return 1;
                case 1: return room;
                case 2: return code;
                case 3: return isOpen ? 1 : 0;
                case 4: return wrongTries;
                case 5: return count;
                case 6: return weight();
                case 7: return holds;
                case 8: return left;
                default: return BAD;
            }
        }
    }
}
