/** The boundaries of the questions, which hold nothing: promises 16, 17 and 18. */
public final class AskingBoundaryTest extends Boundary {
    public static void main(String[] args) {
        toldOfLocker();
        toldOfBare();
        toldBad();
        toldOfEveryLeft();
        itemTaken();
        itemNone();
        itemBare();
        latchBoundaries();
        end(AskingBoundaryTest.class);
    }

    /** Each of its nine facts differs from the others; that there is one is told as a 1, like OPEN. */
    private static Given inUse(int i) {
        return wall().and(mount(i, 600, 99), open(i, 99), put(i, 7), put(i, 8), put(i, 9)).wrongTries(i, 2);
    }

    private static void toldOfLocker() {
        promise("Promise 16, told");
        long[] facts = {1, 600, 99, 1, 2, 3, 24, 6, 4};
        for (int i : END_HOOKS) {
            for (int what = 0; what <= 8; what++) {
                due("0 .. 8, nothing is held", inUse(i), told(i, what), facts[what]);
            }
        }
        long[] fresh = {1, 1, MIN, 0, 0, 0, 0, 0, 0};
        for (int what = 0; what <= 8; what++) {
            due("of a locker never held", wall().and(mount(3, 1, MIN)), told(3, what), fresh[what]);
        }
        due("whether it is OPEN: no more", wall().shut(3, 9), told(3, 3), 0);
        due("WRONG tries: the most", wall().fresh(3, 9).wrongTries(3, 3), told(3, 4), 3);
        due("WRONG tries: the most, asked for more", wall().fresh(3, 9).wrongTries(3, 5), told(3, 4), 3);
        due("how many ITEMS: the most", wall().open(3, 99, times(10, 2)), told(3, 5), 10);
        due("how many ITEMS: the most, one more was refused",
            wall().open(3, 99, times(10, 2)).refused(put(3, 2)), told(3, 5), 10);
        due("what they weigh: the most", wall().open(3, 1000, times(10, 100)), told(3, 6), 1000);
    }

    private static void toldOfBare() {
        promise("Promise 16, told");
        for (int i : END_HOOKS) {
            due("0 of a BARE hook: there is none", wall(), told(i, 0), 0);
            for (int what = 1; what <= 8; what++) {
                due("BARE: what is not 0", wall().fresh(1, 9).fresh(22, 9), told(i, what), BARE);
            }
        }
        due("0, once its locker went", wall().fresh(3, 9).and(unmount(3)), told(3, 0), 0);
        due("BARE, once its locker went", wall().fresh(3, 9).and(unmount(3)), told(3, 1), BARE);
    }

    private static void toldBad() {
        promise("Promise 16, told");
        for (int what : new int[] {-1, 9, 65536, MIN, MAX}) {
            due("BAD: what is not 0 .. 8", inUse(3), told(3, what), BAD);
            due("BAD: what is not 0 .. 8, of a BARE hook", inUse(3), told(4, what), BAD);
        }
    }

    private static void toldOfEveryLeft() {
        promise("Promise 16, told, LEFT");
        due("0 never yet", wall().fresh(3, 9), told(3, 8), 0);
        due("0 never yet, though a mount was refused", wall().fresh(3, 9).refused(mount(3, 9, 9)), told(3, 8), 0);
        due("1 at the end", wall().open(3, 9), told(3, 8), 1);
        due("2 by an answer", wall().fresh(3, 9).refused(shut(3)), told(3, 8), 2);
        due("3 for the next one", wall().fresh(3, 9).refused(find(1)), told(3, 8), 3);
        due("3 out of a loop", wall().open(3, 9, 1).and(find(1)), told(3, 8), 3);
        due("4 by what was thrown", wall().fresh(3, 9).refused(open(3, 1)), told(3, 8), 4);
        due("4 by what BARE throws", wall().open(3, 9).refused(move(3, 4)), told(3, 8), 4);
        due("the last of several", wall().fresh(3, 9).refused(open(3, 1)).and(open(3, 3)), told(3, 8), 1);
    }

    private static void itemTaken() {
        promise("Promise 17, item");
        int[] weights = {11, 12, 13, 14, 15, 16, 17, 18, 19, 20};
        for (int i : END_HOOKS) {
            for (int k = 0; k < 10; k++) {
                due("ITEM " + k + " of ten, nothing is held", wall().open(i, 1000, weights), item(i, k), weights[k]);
            }
            due("ITEM 0 of one", wall().open(i, 9, 5), item(i, 0), 5);
            due("of a locker that is not OPEN", wall().shut(i, 9, 5), item(i, 0), 5);
        }
        due("the least weight", wall().open(3, 9, 1), item(3, 0), 1);
        due("the most weight", wall().open(3, 1000, 1000), item(3, 0), 1000);
    }

    private static void itemNone() {
        promise("Promise 17, item");
        for (int i : END_HOOKS) {
            due("NONE: no ITEMS", wall().open(i, 9), item(i, 0), NONE);
            due("NONE: just behind the last of one", wall().open(i, 9, 5), item(i, 1), NONE);
        }
        due("NONE: just behind the last of ten", wall().open(3, 99, times(10, 5)), item(3, 10), NONE);
        due("NONE: just behind the last of nine", wall().open(3, 99, times(9, 5)), item(3, 9), NONE);
        due("NONE: the ITEM went", wall().open(3, 99, 5, 6).and(take(3)), item(3, 1), NONE);
        due("NONE: all ITEMS went", wall().open(3, 99, times(10, 5)).and(drop(3, 10, 99)), item(3, 0), NONE);
        for (int k : new int[] {-1, 11, 65536, MIN, MAX}) {
            due("NONE: there is none such", wall().open(3, 99, 5, 6), item(3, k), NONE);
        }
    }

    private static void itemBare() {
        promise("Promise 17, item");
        for (int i : END_HOOKS) {
            for (int k : new int[] {0, 9, 10, -1, MIN, MAX}) {
                due("BARE", wall().open(1, 9, 5).open(22, 9, 5), item(i, k), BARE);
            }
        }
        due("BARE, once its locker went", wall().open(3, 9, 5).and(take(3), unmount(3)), item(3, 0), BARE);
    }

    private static void latchBoundaries() {
        promise("Promise 18, latch");
        due("never held", wall().open(3, 9, 5), latch(), 0);
        due("held once by each", wall().open(3, 9, 5).and(tally(), weigh(3, 1)).refused(unmount(3)), latch(), 3);
        due("held, though the locker went", wall().fresh(3, 9).and(unmount(3)), latch(), 1);
        due("held, though BARE was thrown", wall().refused(unmount(3), weigh(3, 1)), latch(), 2);
        due("held, though none was weighed", wall().and(weigh(3, 0)), latch(), 1);
        due("not held by what is BAD", wall().refused(unmount(24), unmount(-1), weigh(24, 1), weigh(-1, 0), weigh(0, 13),
            weigh(0, -1)), latch(), 0);
        due("not held by the other acts", wall().open(3, 9, 4, 5).open(4, 9).and(move(3, 4), swap(3, 4), find(4), first(1),
            take(3), drop(4, 1, 1), recode(4, 4), told(3, 7), shut(4)).refused(mount(3, 1, 1), item(3, 0)), latch(), 0);
    }
}
