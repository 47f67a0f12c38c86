/** The boundaries of the acts on one locker: promises 2 to 7, 12 and 15. */
public final class OneLockerBoundaryTest extends Boundary {
    private static final int[] CODES = {MIN, -1, 0, 1, MAX};

    public static void main(String[] args) {
        mountTaken();
        mountRefused();
        unmountTaken();
        unmountRefused();
        openTaken();
        openWrong();
        openBlocked();
        shutBoundaries();
        putTaken();
        putFull();
        putRefused();
        takeBoundaries();
        dropByNumber();
        dropByWeight();
        dropRefused();
        recodeBoundaries();
        end(OneLockerBoundaryTest.class);
    }

    private static void mountTaken() {
        promise("Promise 2, mount");
        for (int i : END_HOOKS) {
            due("a ROOM of 1 is the least", wall(), mount(i, 1, 5), 1, isMounted(i, 1, 5));
            due("a ROOM of 1000 is the most", wall(), mount(i, 1000, 5), 1, isMounted(i, 1000, 5));
        }
        for (int code : CODES) {
            due("a CODE is any number", wall(), mount(4, 2, code), 1, isMounted(4, 2, code));
        }
        Given last = wall();
        for (int i = 0; i < 23; i++) {
            last.fresh(i, 1 + i);
        }
        due("the last bare hook of all", last, mount(23, 9, 9), 1, isMounted(23, 9, 9));
        Given used = wall().open(6, 50, 5, 7).and(recode(6, 9)).wrongTries(6, 2).and(take(6), take(6), unmount(6));
        due("a NEW locker: not OPEN, no WRONG tries, no ITEMS, never held", used, mount(6, 3, 6), 1, isMounted(6, 3, 6));
    }

    private static void mountRefused() {
        promise("Promise 2, mount");
        for (int room : NO_WEIGHTS) {
            due("BAD: ROOM is not 1 .. 1000", wall().fresh(3, 5), mount(4, room, 1), BAD);
        }
        for (int i : END_HOOKS) {
            due("FULL: there is one, nothing is held", wall().fresh(i, 5), mount(i, 6, 7), FULL);
            due("FULL: there is one, the same", wall().fresh(i, 5), mount(i, 5, i), FULL);
            due("FULL: there is one, in use", wall().openLeft2(i, 50, 4, 6).wrongTries(i, 2), mount(i, 6, 7), FULL);
        }
        Given full = wall();
        for (int i = 0; i < 24; i++) {
            full.fresh(i, 1 + i);
        }
        for (int i = 0; i < 24; i++) {
            due("FULL: there is one on every hook", full, mount(i, 6, 7), FULL);
        }
    }

    private static void unmountTaken() {
        promise("Promise 3, unmount");
        for (int i : END_HOOKS) {
            due("never held before: 1", wall().fresh(i, 5), unmount(i), 1, isBare(i), latchHeld());
            due("OPEN and without ITEMS", wall().open(i, 5), unmount(i), 2, isBare(i), latchHeld());
            due("not OPEN and without ITEMS", wall().shut(i, 5), unmount(i), 3, isBare(i), latchHeld());
        }
        due("its last ITEM went", wall().open(2, 5, 5).and(take(2)), unmount(2), 4, isBare(2), latchHeld());
        due("held by refused acts too", wall().fresh(2, 5).wrongTries(2, 3).refused(open(2, 2), shut(2)),
            unmount(2), 6, isBare(2), latchHeld());
        due("held three times by one act", wall().open(2, 5).and(recode(2, 1)), unmount(2), 5, isBare(2), latchHeld());
        due("held twice by one act", wall().open(2, 5).and(swap(2, 2)), unmount(2), 4, isBare(2), latchHeld());
        due("only that hook is BARE", wall().fresh(1, 5).fresh(2, 5).fresh(3, 5), unmount(2), 1, isBare(2), latchHeld());
    }

    private static void unmountRefused() {
        promise("Promise 3, unmount");
        for (int i : END_HOOKS) {
            due("EMPTY (2): it has one ITEM", wall().open(i, 5, 1), unmount(i), EMPTY, held(i, 1, 2), latchHeld());
        }
        due("EMPTY (2): it has 10 ITEMS", wall().open(2, 10, times(10, 1)), unmount(2), EMPTY, held(2, 1, 2), latchHeld());
        due("EMPTY (2): it has ITEMS and is not OPEN", wall().shut(2, 5, 5), unmount(2), EMPTY, held(2, 1, 2), latchHeld());
        due("EMPTY (2), though it was let go otherwise", wall().open(2, 5, 5).wrongTries(2, 1),
            unmount(2), EMPTY, held(2, 1, 2), latchHeld());
        due("BARE a second time", wall().fresh(2, 5).and(unmount(2)), unmount(2), BARE, latchHeld());
    }

    private static void openTaken() {
        promise("Promise 4, open");
        for (int i : END_HOOKS) {
            due("OPEN from now on", wall().fresh(i, 5), open(i, i), 1, isOpen(i, 1), held(i, 1, 1));
        }
        for (int code : CODES) {
            due("the code is its CODE", wall().and(mount(2, 5, code)), open(2, code), 1, isOpen(2, 1), held(2, 1, 1));
        }
        due("OPEN as before", wall().openLeft2(2, 5, 3), open(2, 2), 1, held(2, 1, 1));
        for (int n = 1; n <= 2; n++) {
            due("without WRONG tries after " + n, wall().fresh(2, 5).wrongTries(2, n), open(2, 2), 1,
                isOpen(2, 1), hasWrongTries(2, 0), held(2, 1, 1));
            due("OPEN as before, without WRONG tries after " + n, wall().open(2, 5).wrongTries(2, n), open(2, 2), 1,
                hasWrongTries(2, 0), held(2, 1, 1));
        }
    }

    private static void openWrong() {
        promise("Promise 4, open");
        for (int n = 0; n <= 2; n++) {
            Given shut = wall().fresh(2, 5).wrongTries(2, n).refused(shut(2));
            due("WRONG (4) with " + n + " tries before", shut, open(2, 3), WRONG, hasWrongTries(2, n + 1), held(2, 1, 4));
            Given open = wall().open(2, 5, 3).wrongTries(2, n).and(recode(2, 2));
            due("WRONG (4), OPEN as before, with " + n + " tries before", open, open(2, 1), WRONG,
                hasWrongTries(2, n + 1), held(2, 1, 4));
        }
        for (int code : CODES) {
            Given given = wall().and(mount(2, 5, code));
            for (int other : new int[] {code + 1, code - 1, ~code}) {
                due("WRONG (4): not just its CODE", given, open(2, other), WRONG, hasWrongTries(2, 1), held(2, 1, 4));
            }
        }
        for (int bit = 0; bit < 32; bit++) {
            due("WRONG (4): all but one bit is its CODE's", wall().and(mount(2, 5, 77)), open(2, 77 ^ 1 << bit), WRONG,
                hasWrongTries(2, 1), held(2, 1, 4));
        }
        Given anew = wall().fresh(2, 5).wrongTries(2, 2).and(open(2, 2)).wrongTries(2, 2).and(recode(2, 2));
        due("the tries begin anew once it was opened", anew, open(2, 1), WRONG, hasWrongTries(2, 3), held(2, 1, 4));
        for (int i : END_HOOKS) {
            due("WRONG (4) at the ends", wall().open(i, 5), open(i, 5), WRONG, hasWrongTries(i, 1), held(i, 1, 4));
        }
    }

    private static void openBlocked() {
        promise("Promise 4, open");
        for (int i : END_HOOKS) {
            Given shut = wall().fresh(i, 5).wrongTries(i, 3);
            due("BLOCKED (2): 3 WRONG tries, the code is right", shut, open(i, i), BLOCKED, held(i, 1, 2));
            due("BLOCKED (2): 3 WRONG tries, the code is not", shut, open(i, 9), BLOCKED, held(i, 1, 2));
            Given open = wall().open(i, 5, 2).wrongTries(i, 3);
            due("BLOCKED (2) and OPEN as before", open, open(i, i), BLOCKED, held(i, 1, 2));
        }
        Given recoded = wall().open(2, 5).wrongTries(2, 3).and(recode(2, 8), shut(2));
        due("BLOCKED (2) with a new CODE too", recoded, open(2, 8), BLOCKED, held(2, 1, 2));
        Given anew = wall().fresh(2, 5).wrongTries(2, 3).and(unmount(2)).fresh(2, 5);
        due("a new locker is not BLOCKED", anew, open(2, 2), 1, isOpen(2, 1), held(2, 1, 1));
        Given beside = wall().fresh(1, 5).fresh(2, 5).wrongTries(2, 3);
        due("the one beside is not BLOCKED", beside, open(1, 1), 1, isOpen(1, 1), held(1, 1, 1));
    }

    private static void shutBoundaries() {
        promise("Promise 5, shut");
        for (int i : END_HOOKS) {
            due("SHUT (2): it was never OPEN", wall().fresh(i, 5), shut(i), SHUT, held(i, 1, 2));
            due("SHUT (2): it is not OPEN any more", wall().shut(i, 5, 4), shut(i), SHUT, held(i, 1, 2));
            due("not OPEN from now on", wall().openLeft2(i, 5, 4), shut(i), 1, isOpen(i, 0), held(i, 1, 1));
        }
        due("without ITEMS", wall().openLeft2(2, 5), shut(2), 1, isOpen(2, 0), held(2, 1, 1));
        due("with 10 ITEMS", wall().openLeft2(2, 10, times(10, 1)), shut(2), 1, isOpen(2, 0), held(2, 1, 1));
        due("with 3 WRONG tries, which stay", wall().open(2, 5).wrongTries(2, 3), shut(2), 1, isOpen(2, 0), held(2, 1, 1));
    }

    private static void putTaken() {
        promise("Promise 6, put");
        for (int i : END_HOOKS) {
            due("w of 1 is the least", wall().openLeft2(i, 1000), put(i, 1), 1, hasItems(i, 1), held(i, 1, 1));
            due("w of 1000 is the most", wall().openLeft2(i, 1000), put(i, 1000), 1, hasItems(i, 1000), held(i, 1, 1));
        }
        due("the least ROOM, just full", wall().openLeft2(2, 1), put(2, 1), 1, hasItems(2, 1), held(2, 1, 1));
        due("they weigh just the ROOM", wall().openLeft2(2, 60, 20, 30), put(2, 10), 3,
            hasItems(2, 20, 30, 10), held(2, 1, 1));
        due("they weigh one less than the ROOM", wall().openLeft2(2, 60, 20, 30), put(2, 9), 3,
            hasItems(2, 20, 30, 9), held(2, 1, 1));
        due("they weigh just the most ROOM", wall().openLeft2(2, 1000, 999), put(2, 1), 2,
            hasItems(2, 999, 1), held(2, 1, 1));
        due("the tenth ITEM", wall().openLeft2(2, 100, 1, 2, 3, 4, 5, 6, 7, 8, 9), put(2, 10), 10,
            hasItems(2, 1, 2, 3, 4, 5, 6, 7, 8, 9, 10), held(2, 1, 1));
        due("the tenth ITEM, and just the ROOM", wall().openLeft2(2, 10, times(9, 1)), put(2, 1), 10,
            hasItems(2, times(10, 1)), held(2, 1, 1));
        due("after one went from ten", wall().openLeft2(2, 99, times(10, 2)).and(take(2), recode(2, 2)), put(2, 3), 10,
            hasItems(2, 2, 2, 2, 2, 2, 2, 2, 2, 2, 3), held(2, 1, 1));
        due("after FULL, one that fits", wall().open(2, 9, 5).refused(put(2, 5)), put(2, 4), 2,
            hasItems(2, 5, 4), held(2, 1, 1));
    }

    private static void putFull() {
        promise("Promise 6, put");
        for (int i : END_HOOKS) {
            due("FULL (4): it has 10 ITEMS", wall().open(i, 1000, times(10, 1)), put(i, 1), FULL, held(i, 1, 4));
            due("FULL (4): one more than the ROOM", wall().open(i, 60, 20, 30), put(i, 11), FULL, held(i, 1, 4));
        }
        due("FULL (4): one more than the ROOM, the first ITEM", wall().open(2, 60), put(2, 61), FULL, held(2, 1, 4));
        due("FULL (4): one more than the least ROOM", wall().open(2, 1), put(2, 2), FULL, held(2, 1, 4));
        due("FULL (4): the least ROOM is full", wall().open(2, 1, 1), put(2, 1), FULL, held(2, 1, 4));
        due("FULL (4): one more than the most ROOM", wall().open(2, 1000, 1000), put(2, 1), FULL, held(2, 1, 4));
        due("FULL (4): far more than the ROOM", wall().open(2, 1, 1), put(2, 1000), FULL, held(2, 1, 4));
        due("FULL (4): 10 ITEMS, and just the ROOM", wall().open(2, 10, times(10, 1)), put(2, 1), FULL, held(2, 1, 4));
        due("FULL (4): the tenth would weigh too much", wall().open(2, 10, times(9, 1)), put(2, 2), FULL, held(2, 1, 4));
    }

    private static void putRefused() {
        promise("Promise 6, put");
        for (int w : NO_WEIGHTS) {
            due("BAD: w is not 1 .. 1000", wall().open(2, 1000), put(2, w), BAD);
        }
        due("SHUT (2): never OPEN", wall().fresh(2, 9), put(2, 1), SHUT, held(2, 1, 2));
        due("SHUT (2): not OPEN any more", wall().shut(2, 9, 1), put(2, 1), SHUT, held(2, 1, 2));
        due("SHUT (2) before FULL by number", wall().shut(2, 99, times(10, 1)), put(2, 1), SHUT, held(2, 1, 2));
        due("SHUT (2) before FULL by weight", wall().shut(2, 9, 9), put(2, 1), SHUT, held(2, 1, 2));
        for (int i : END_HOOKS) {
            due("SHUT (2) at the ends", wall().shut(i, 9), put(i, 1), SHUT, held(i, 1, 2));
        }
    }

    private static void takeBoundaries() {
        promise("Promise 7, take");
        for (int i : END_HOOKS) {
            due("SHUT (2): never OPEN", wall().fresh(i, 9), take(i), SHUT, held(i, 1, 2));
            due("SHUT (2): not OPEN any more", wall().shut(i, 9, 4, 5), take(i), SHUT, held(i, 1, 2));
            due("EMPTY (4): there was none", wall().open(i, 9), take(i), EMPTY, held(i, 1, 4));
            due("the only one goes", wall().openLeft2(i, 9, 9), take(i), 9, hasItems(i), held(i, 1, 1));
        }
        due("EMPTY (4): the last one went", wall().open(2, 9, 4, 5).and(take(2), take(2)), take(2), EMPTY, held(2, 1, 4));
        due("SHUT (2) before EMPTY", wall().shut(2, 9), take(2), SHUT, held(2, 1, 2));
        due("of 10 ITEMS the last goes", wall().openLeft2(2, 99, 1, 2, 3, 4, 5, 6, 7, 8, 9, 10), take(2), 10,
            hasItems(2, 1, 2, 3, 4, 5, 6, 7, 8, 9), held(2, 1, 1));
        due("the least weight", wall().openLeft2(2, 9, 3, 1), take(2), 1, hasItems(2, 3), held(2, 1, 1));
        due("the most weight", wall().openLeft2(2, 1000, 1000), take(2), 1000, hasItems(2), held(2, 1, 1));
    }

    private static Given tenToDrop() {
        return wall().openLeft2(2, 99, 1, 2, 3, 4, 5, 6, 7, 8, 9, 10);
    }

    private static void dropByNumber() {
        promise("Promise 12, drop");
        due("n of 1 is the least", tenToDrop(), drop(2, 1, MAX), 10, hasItems(2, 1, 2, 3, 4, 5, 6, 7, 8, 9), held(2, 1, 1));
        due("n of 10 is the most", tenToDrop(), drop(2, 10, MAX), 55, hasItems(2), held(2, 1, 1));
        due("one stays of ten", tenToDrop(), drop(2, 9, MAX), 54, hasItems(2, 1), held(2, 1, 1));
        due("as many as there are", wall().openLeft2(2, 99, 7, 8), drop(2, 2, MAX), 15, hasItems(2), held(2, 1, 1));
        due("one more than there are: none is left", wall().openLeft2(2, 99, 7, 8), drop(2, 3, MAX), 15,
            hasItems(2), held(2, 1, 1));
        due("one less than there are", wall().openLeft2(2, 99, 7, 8), drop(2, 1, MAX), 8, hasItems(2, 7), held(2, 1, 1));
        due("there was none: 0", wall().openLeft2(2, 99), drop(2, 1, 1), 0, held(2, 1, 1));
        due("there was none, and m is 0: 0", wall().openLeft2(2, 99), drop(2, 10, 0), 0, held(2, 1, 1));
        for (int i : END_HOOKS) {
            due("at the ends", wall().openLeft2(i, 99, 3, 4, 5), drop(i, 2, 99), 9, hasItems(i, 3), held(i, 1, 1));
        }
    }

    private static void dropByWeight() {
        promise("Promise 12, drop");
        for (int m : new int[] {MIN, -1, 0, 1, 10}) {
            due("asked behind the first that went: m " + m, tenToDrop(), drop(2, 10, m), 10,
                hasItems(2, 1, 2, 3, 4, 5, 6, 7, 8, 9), held(2, 1, 1));
        }
        due("one more than the first weighs: a second goes", tenToDrop(), drop(2, 10, 11), 19,
            hasItems(2, 1, 2, 3, 4, 5, 6, 7, 8), held(2, 1, 1));
        due("just m", tenToDrop(), drop(2, 10, 19), 19, hasItems(2, 1, 2, 3, 4, 5, 6, 7, 8), held(2, 1, 1));
        due("one less than m: the next goes too", tenToDrop(), drop(2, 10, 20), 27,
            hasItems(2, 1, 2, 3, 4, 5, 6, 7), held(2, 1, 1));
        due("all, and just m", tenToDrop(), drop(2, 10, 55), 55, hasItems(2), held(2, 1, 1));
        due("all but one, and just m", tenToDrop(), drop(2, 10, 54), 54, hasItems(2, 1), held(2, 1, 1));
        due("far more than all weigh", tenToDrop(), drop(2, 10, 65536), 55, hasItems(2), held(2, 1, 1));
        due("n comes before m", tenToDrop(), drop(2, 2, 20), 19, hasItems(2, 1, 2, 3, 4, 5, 6, 7, 8), held(2, 1, 1));
        due("m comes before n", tenToDrop(), drop(2, 3, 19), 19, hasItems(2, 1, 2, 3, 4, 5, 6, 7, 8), held(2, 1, 1));
        due("n and m at once", tenToDrop(), drop(2, 2, 19), 19, hasItems(2, 1, 2, 3, 4, 5, 6, 7, 8), held(2, 1, 1));
    }

    private static void dropRefused() {
        promise("Promise 12, drop");
        for (int n : new int[] {0, 11, -1, 65537, MIN, MAX}) {
            due("BAD: n is not 1 .. 10", tenToDrop(), drop(2, n, 1), BAD);
        }
        for (int i : END_HOOKS) {
            due("SHUT (2): not OPEN any more", wall().shut(i, 9, 4, 5), drop(i, 1, 1), SHUT, held(i, 1, 2));
        }
        due("SHUT (2): never OPEN", wall().fresh(2, 9), drop(2, 10, MAX), SHUT, held(2, 1, 2));
        due("SHUT (2), though m is below 0", wall().shut(2, 9, 4), drop(2, 1, MIN), SHUT, held(2, 1, 2));
    }

    private static void recodeBoundaries() {
        promise("Promise 15, recode");
        for (int i : END_HOOKS) {
            due("OPEN: (2, 2, 2)", wall().open(i, 9, 4), recode(i, 77), 1, hasCode(i, 77), held(i, 3, 2));
            due("not OPEN any more: WRONG (4, 4, 4)", wall().shut(i, 9, 4), recode(i, 77), WRONG, held(i, 3, 4));
            due("never OPEN: WRONG (4, 4, 4)", wall().fresh(i, 9), recode(i, 77), WRONG, held(i, 3, 4));
        }
        for (int code : CODES) {
            due("the code is any number", wall().open(2, 9), recode(2, code), 1, hasCode(2, code), held(2, 3, 2));
        }
        due("the code is its CODE already", wall().open(2, 9), recode(2, 2), 1, held(2, 3, 2));
        due("the code is its CODE already, not OPEN", wall().shut(2, 9), recode(2, 2), WRONG, held(2, 3, 4));
        due("3 WRONG tries stay", wall().open(2, 9).wrongTries(2, 3), recode(2, 5), 1, hasCode(2, 5), held(2, 3, 2));
        due("not OPEN, and no WRONG try is added to 2", wall().fresh(2, 9).wrongTries(2, 2).refused(shut(2)),
            recode(2, 5), WRONG, held(2, 3, 4));
    }
}
