/** The boundaries of the acts that go along the wall: promises 10, 11, 13 and 14. */
public final class WholeWallBoundaryTest extends Boundary {
    public static void main(String[] args) {
        findTaken();
        findNone();
        findBad();
        weighNumbers();
        weighBehindLastHook();
        weighPastBare();
        weighBad();
        tallyBoundaries();
        firstTaken();
        firstNone();
        firstBad();
        end(WholeWallBoundaryTest.class);
    }

    /** A locker on every hook, with one item of one more than the hook's number; LEFT is 1. */
    private static Given fullWall() {
        Given given = wall();
        for (int i = 0; i < 24; i++) {
            given.open(i, 100, i + 1);
        }
        return given;
    }

    private static Given fullWallLeft2() {
        Given given = fullWall();
        for (int i = 0; i < 24; i++) {
            given.and(recode(i, i));
        }
        return given;
    }

    private static void findTaken() {
        promise("Promise 10, find");
        for (int i : END_HOOKS) {
            due("w of 1 is the least", wall().open(i, 9, 1), find(1), i, held(i, 1, 3));
            due("w of 1000 is the most", wall().open(i, 1000, 1000), find(1000), i, held(i, 1, 3));
        }
        due("on the first hook, no more come", fullWall(), find(1), 0, held(0, 1, 3));
        due("on the last hook, all come", fullWallLeft2(), find(24), 23, heldRow(0, 23, 1), held(23, 1, 3));
        due("the first of ten ITEMS", wall().open(4, 99, 5, 1, 1, 1, 1, 1, 1, 1, 1, 1), find(5), 4, held(4, 1, 3));
        due("the last of ten ITEMS", wall().open(4, 99, 1, 1, 1, 1, 1, 1, 1, 1, 1, 5), find(5), 4, held(4, 1, 3));
        due("the first of two that have it", wall().open(4, 9, 5).open(5, 9, 5), find(5), 4, held(4, 1, 3));
        due("one that is not OPEN (3) is passed, the next one comes", wall().shut(4, 9, 5).open(5, 9, 5), find(5), 5,
            held(4, 1, 3), held(5, 1, 3));
        due("one that was never OPEN (3) is passed", wall().fresh(4, 9).open(5, 9, 5), find(5), 5,
            held(4, 1, 3), held(5, 1, 3));
        due("one without it is let go at its end", wall().openLeft2(4, 9, 6).open(5, 9, 5), find(5), 5,
            held(4, 1, 1), held(5, 1, 3));
    }

    private static void findNone() {
        promise("Promise 10, find");
        due("NONE: all hooks are BARE", wall(), find(1), NONE);
        due("NONE: no ITEMS", wall().openLeft2(4, 9), find(5), NONE, held(4, 1, 1));
        due("NONE: one more than w", wall().openLeft2(4, 9, 6), find(5), NONE, held(4, 1, 1));
        due("NONE: one less than w", wall().openLeft2(4, 9, 4), find(5), NONE, held(4, 1, 1));
        due("NONE: two weigh w together", wall().openLeft2(4, 9, 2, 3), find(5), NONE, held(4, 1, 1));
        due("NONE: the one that has it is not OPEN", wall().shut(4, 9, 5), find(5), NONE, held(4, 1, 3));
        due("NONE: the ITEM went", wall().open(4, 9, 5).and(take(4), recode(4, 4)), find(5), NONE, held(4, 1, 1));
        due("NONE: the locker went", wall().open(4, 9, 5).and(take(4), unmount(4)), find(5), NONE);
        due("NONE: all 24 come", fullWallLeft2(), find(25), NONE, heldRow(0, 24, 1));
        Given shut = wall();
        for (int i = 0; i < 24; i++) {
            shut.fresh(i, 9);
        }
        due("NONE: all 24 are not OPEN (3)", shut, find(1), NONE, heldRow(0, 24, 3));
    }

    private static void findBad() {
        promise("Promise 10, find");
        for (int w : NO_WEIGHTS) {
            due("BAD: w is not 1 .. 1000", wall().open(0, 1000, 1, 999).shut(1, 9), find(w), BAD);
            due("BAD: w is not 1 .. 1000, and all are BARE", wall(), find(w), BAD);
        }
    }

    private static void weighNumbers() {
        promise("Promise 11, weigh");
        for (int i : END_HOOKS) {
            due("n of 0 is the least: nothing but the latch", fullWall(), weigh(i, 0), 0, latchHeld());
            due("n of 0, the hook is BARE", wall(), weigh(i, 0), 0, latchHeld());
            due("n of 1", fullWall(), weigh(i, 1), i + 1, latchHeld(), heldRow(i, 1, 2));
        }
        due("n of 12 is the most", fullWall(), weigh(0, 12), 78, latchHeld(), heldRow(0, 12, 2));
        due("n of 11", fullWall(), weigh(0, 11), 66, latchHeld(), heldRow(0, 11, 2));
        due("no ITEMS", wall().open(3, 9).open(4, 9), weigh(3, 2), 0, latchHeld(), heldRow(3, 2, 2));
        due("not OPEN", wall().shut(3, 9, 8).fresh(4, 9), weigh(3, 2), 8, latchHeld(), heldRow(3, 2, 2));
        due("10 ITEMS", wall().open(3, 99, times(10, 7)), weigh(3, 1), 70, latchHeld(), heldRow(3, 1, 2));
        Given most = wall();
        for (int i = 18; i < 30; i++) {
            most.open(i % 24, 1000, 999, 1);
        }
        due("the most that can be: 12 of the most ROOM", most, weigh(18, 12), 12000, latchHeld(), heldRow(18, 12, 2));
    }

    private static void weighBehindLastHook() {
        promise("Promise 11, weigh, behind HOOK 23 comes 0");
        due("the row ends just on hook 23", fullWall(), weigh(12, 12), 222, latchHeld(), heldRow(12, 12, 2));
        due("the row ends on hook 0", fullWall(), weigh(13, 12), 210, latchHeld(), heldRow(13, 12, 2));
        due("only hook 23 before hook 0", fullWall(), weigh(23, 12), 24 + 66, latchHeld(), heldRow(23, 12, 2));
        due("hook 23 and hook 0", fullWall(), weigh(23, 2), 25, latchHeld(), heldRow(23, 2, 2));
        due("from hook 0, none behind 23", fullWall(), weigh(0, 2), 3, latchHeld(), heldRow(0, 2, 2));
        due("these two alone are there", wall().open(23, 9, 4).open(0, 9, 3), weigh(23, 2), 7,
            latchHeld(), heldRow(23, 2, 2));
    }

    private static void weighPastBare() {
        promise("Promise 11, weigh, what BARE throws");
        Given row = wall();
        for (int i = 2; i < 13; i++) {
            row.open(i, 9, 1);
        }
        due("goes through none: the first is BARE", row, weigh(1, 12), BARE, latchHeld());
        due("goes through 11: the twelfth is BARE", row, weigh(2, 12), BARE, latchHeld(), heldRow(2, 11, 4));
        due("goes through one: the second is BARE", row, weigh(12, 2), BARE, latchHeld(), heldRow(12, 1, 4));
        due("the one behind the row is BARE", row, weigh(2, 11), 11, latchHeld(), heldRow(2, 11, 2));
        due("the one before the row is BARE", row, weigh(2, 1), 1, latchHeld(), heldRow(2, 1, 2));
        due("those behind BARE are not held", wall().open(3, 9, 1).shut(5, 9, 1), weigh(3, 3), BARE,
            latchHeld(), heldRow(3, 1, 4));
        due("one that is not OPEN too", wall().shut(3, 9, 1).fresh(4, 9), weigh(3, 3), BARE,
            latchHeld(), heldRow(3, 2, 4));
        Given lastHook = wall().open(22, 9, 1).open(23, 9, 1);
        due("hook 0 is BARE behind hook 23", lastHook, weigh(22, 3), BARE, latchHeld(), heldRow(22, 2, 4));
        due("hook 0 is BARE, but not reached", lastHook, weigh(22, 2), 2, latchHeld(), heldRow(22, 2, 2));
        Given both = wall().open(23, 9, 1).open(0, 9, 1);
        due("hook 1 is BARE behind hooks 23 and 0", both, weigh(23, 3), BARE, latchHeld(), heldRow(23, 2, 4));
        due("hook 23 is BARE, hook 0 is not held", wall().open(0, 9, 1), weigh(23, 2), BARE, latchHeld());
    }

    private static void weighBad() {
        promise("Promise 11, weigh");
        for (int n : new int[] {-1, 13, 24, 65536, MIN, MAX}) {
            due("BAD: n is not 0 .. 12", fullWall(), weigh(0, n), BAD);
            due("BAD: n is not 0 .. 12, behind hook 23", fullWall(), weigh(23, n), BAD);
        }
    }

    private static void tallyBoundaries() {
        promise("Promise 13, tally");
        due("all hooks are BARE", wall(), tally(), 0, latchHeld());
        due("the first hook counts once", wall().openLeft2(0, 9, 7), tally(), 7, latchHeld(), held(0, 1, 1));
        due("the last hook counts 24 times", wall().openLeft2(23, 9, 7), tally(), 168, latchHeld(), held(23, 1, 1));
        due("no ITEMS", wall().openLeft2(3, 9), tally(), 0, latchHeld(), held(3, 1, 1));
        due("10 ITEMS", wall().openLeft2(3, 99, times(10, 7)), tally(), 280, latchHeld(), held(3, 1, 1));
        due("not OPEN", wall().shutLeft2(3, 9, 7), tally(), 28, latchHeld(), held(3, 1, 1));
        due("never held", wall().fresh(3, 9), tally(), 0, latchHeld(), held(3, 1, 1));
        due("BARE ones between", wall().openLeft2(0, 9, 1).openLeft2(12, 9, 2).openLeft2(23, 9, 3), tally(), 1 + 26 + 72,
            latchHeld(), held(0, 1, 1), held(12, 1, 1), held(23, 1, 1));
        due("no hook is BARE", fullWallLeft2(), tally(), 4900, latchHeld(), heldRow(0, 24, 1));
        Given most = wall();
        for (int i = 0; i < 24; i++) {
            most.and(mount(i, 1000, i), open(i, i), put(i, 1000), recode(i, i));
        }
        due("the most that can be", most, tally(), 300000, latchHeld(), heldRow(0, 24, 1));
    }

    private static void firstTaken() {
        promise("Promise 14, first");
        for (int i : END_HOOKS) {
            due("w of 0 is the least, no ITEMS", wall().open(i, 9), first(0), i, held(i, 1, 2));
            due("w of 1, the least that weighs", wall().open(i, 9, 1), first(1), i, held(i, 1, 2));
            due("the most that one can weigh", wall().open(i, 1000, 999, 1), first(1000), i, held(i, 1, 2));
        }
        due("just w together", wall().open(4, 99, 20, 30), first(50), 4, held(4, 1, 2));
        due("one more than w", wall().open(4, 99, 20, 31), first(50), 4, held(4, 1, 2));
        due("not OPEN", wall().shut(4, 99, 50), first(50), 4, held(4, 1, 2));
        due("never held before", wall().fresh(4, 99), first(0), 4, held(4, 1, 2));
        due("10 ITEMS", wall().open(4, 99, times(10, 5)), first(50), 4, held(4, 1, 2));
        due("on the first hook, no more come", fullWall(), first(1), 0, held(0, 1, 2));
        due("w of 0: the first locker, no more come", fullWall(), first(0), 0, held(0, 1, 2));
        due("on the last hook, all come", fullWallLeft2().wrongTries(23, 1), first(24), 23,
            heldRow(0, 23, 1), held(23, 1, 2));
        due("one that weighs one less is let go at its end", wall().openLeft2(4, 99, 49).open(5, 99, 50), first(50), 5,
            held(4, 1, 1), held(5, 1, 2));
    }

    private static void firstNone() {
        promise("Promise 14, first");
        due("NONE: all hooks are BARE", wall(), first(0), NONE);
        due("NONE: no ITEMS, and w is 1", wall().openLeft2(4, 99), first(1), NONE, held(4, 1, 1));
        due("NONE: one less than w", wall().openLeft2(4, 99, 20, 29), first(50), NONE, held(4, 1, 1));
        due("NONE: two lockers weigh w together", wall().openLeft2(4, 99, 25).openLeft2(5, 99, 25), first(50), NONE,
            held(4, 1, 1), held(5, 1, 1));
        due("NONE: more than one can weigh", wall().openLeft2(4, 1000, 1000), first(1001), NONE, held(4, 1, 1));
        due("NONE: far more than one can weigh", wall().openLeft2(4, 1000, 1000), first(65536), NONE, held(4, 1, 1));
        due("NONE: the most that w can be", wall().openLeft2(4, 1000, 1000), first(MAX), NONE, held(4, 1, 1));
        due("NONE: all 24 come", fullWallLeft2(), first(25), NONE, heldRow(0, 24, 1));
        due("NONE: the ITEM went", wall().open(4, 99, 50).and(take(4), recode(4, 4)), first(50), NONE, held(4, 1, 1));
    }

    private static void firstBad() {
        promise("Promise 14, first");
        for (int w : new int[] {-1, -2, MIN}) {
            due("BAD: w is below 0", wall().open(0, 9, 1).open(23, 9), first(w), BAD);
            due("BAD: w is below 0, and all are BARE", wall(), first(w), BAD);
        }
    }
}
