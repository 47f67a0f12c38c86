/** The boundaries of the acts on two lockers: promises 8 and 9. */
public final class TwoLockersBoundaryTest extends Boundary {
    public static void main(String[] args) {
        refusedAlike("Promise 8, move", false);
        refusedAlike("Promise 9, swap", true);
        moveTaken();
        moveWithinOne();
        moveEmpty();
        moveFull();
        swapTaken();
        swapWithinOne();
        swapFull();
        end(TwoLockersBoundaryTest.class);
    }

    private static Call act(boolean swapping, int i, int j) {
        return swapping ? swap(i, j) : move(i, j);
    }

    private static void refusedAlike(String which, boolean swapping) {
        promise(which);
        for (int i : END_HOOKS) {
            int j = 23 - i;
            due("SHUT (both 2): i is not OPEN", wall().shut(i, 9, 4).open(j, 9, 5), act(swapping, i, j), SHUT,
                held(i, 1, 2), held(j, 1, 2));
            due("SHUT (both 2): j is not OPEN", wall().open(i, 9, 4).shut(j, 9, 5), act(swapping, i, j), SHUT,
                held(i, 1, 2), held(j, 1, 2));
            due("SHUT (both 2): neither is OPEN", wall().shut(i, 9, 4).fresh(j, 9), act(swapping, i, j), SHUT,
                held(i, 1, 2), held(j, 1, 2));
            due("SHUT (2 twice): j is i", wall().shut(i, 9, 4), act(swapping, i, i), SHUT, held(i, 2, 2));
            due("SHUT (2 twice): j is i, never OPEN", wall().fresh(i, 9), act(swapping, i, i), SHUT, held(i, 2, 2));
            due("BARE: j is, i is let go by (4)", wall().open(i, 9, 4), act(swapping, i, j), BARE, held(i, 1, 4));
            due("BARE: i is, j is not held", wall().open(j, 9, 4), act(swapping, i, j), BARE);
            due("BARE: both are", wall().open(5, 9, 4), act(swapping, i, j), BARE);
        }
        due("SHUT (both 2) before FULL by weight", wall().open(1, 9, 9).shut(2, 1, 1), act(swapping, 1, 2), SHUT,
            held(1, 1, 2), held(2, 1, 2));
        due("SHUT (both 2) before FULL by number", wall().shut(1, 99, 9).open(2, 10, times(10, 1)),
            act(swapping, 1, 2), SHUT, held(1, 1, 2), held(2, 1, 2));
        due("SHUT (both 2) before EMPTY", wall().open(1, 9).shut(2, 9, 1), act(swapping, 1, 2), SHUT,
            held(1, 1, 2), held(2, 1, 2));
        due("SHUT (both 2) before EMPTY, i is not OPEN", wall().shut(1, 9).open(2, 9, 1), act(swapping, 1, 2), SHUT,
            held(1, 1, 2), held(2, 1, 2));
        due("3 WRONG tries do not matter", wall().open(1, 9, 4).wrongTries(1, 3).open(2, 9).wrongTries(2, 3),
            act(swapping, 1, 2), swapping ? 1 : 4, hasItems(1), hasItems(2, 4), held(1, 1, 1), held(2, 1, 1));
    }

    private static void moveTaken() {
        promise("Promise 8, move");
        for (int i : END_HOOKS) {
            int j = 23 - i;
            due("the only ITEM of i, to one without", wall().openLeft2(i, 9, 5).openLeft2(j, 5), move(i, j), 5,
                hasItems(i), hasItems(j, 5), held(i, 1, 1), held(j, 1, 1));
        }
        due("j weighs just its ROOM then", wall().openLeft2(1, 99, 1, 30).openLeft2(2, 60, 20, 10), move(1, 2), 30,
            hasItems(1, 1), hasItems(2, 20, 10, 30), held(1, 1, 1), held(2, 1, 1));
        due("the most weight", wall().openLeft2(1, 1000, 1000).openLeft2(2, 1000), move(1, 2), 1000,
            hasItems(1), hasItems(2, 1000), held(1, 1, 1), held(2, 1, 1));
        due("the least weight", wall().openLeft2(1, 1, 1).openLeft2(2, 1), move(1, 2), 1,
            hasItems(1), hasItems(2, 1), held(1, 1, 1), held(2, 1, 1));
        due("it is the tenth ITEM of j", wall().openLeft2(1, 9, 7).openLeft2(2, 99, times(9, 2)), move(1, 2), 7,
            hasItems(1), hasItems(2, 2, 2, 2, 2, 2, 2, 2, 2, 2, 7), held(1, 1, 1), held(2, 1, 1));
        due("from ten ITEMS the last", wall().openLeft2(1, 99, 1, 2, 3, 4, 5, 6, 7, 8, 9, 10).openLeft2(2, 99),
            move(1, 2), 10, hasItems(1, 1, 2, 3, 4, 5, 6, 7, 8, 9), hasItems(2, 10), held(1, 1, 1), held(2, 1, 1));
    }

    private static void moveWithinOne() {
        promise("Promise 8, move");
        for (int i : END_HOOKS) {
            due("the same: its only ITEM", wall().openLeft2(i, 9, 9), move(i, i), 9, held(i, 2, 1));
            due("the same: EMPTY (4 twice)", wall().open(i, 9), move(i, i), EMPTY, held(i, 2, 4));
        }
        due("the same: 10 ITEMS, for the last one went", wall().openLeft2(2, 99, 1, 2, 3, 4, 5, 6, 7, 8, 9, 10),
            move(2, 2), 10, held(2, 2, 1));
        due("the same: just the ROOM, for the last one went", wall().openLeft2(2, 10, 4, 6), move(2, 2), 6, held(2, 2, 1));
        due("the same: 10 ITEMS and just the ROOM", wall().openLeft2(2, 10, times(10, 1)), move(2, 2), 1, held(2, 2, 1));
    }

    private static void moveEmpty() {
        promise("Promise 8, move");
        for (int i : END_HOOKS) {
            int j = 23 - i;
            due("EMPTY (both 4): i has none", wall().open(i, 9).open(j, 9, 4), move(i, j), EMPTY, held(i, 1, 4), held(j, 1, 4));
        }
        due("EMPTY (both 4): neither has any", wall().open(1, 9).open(2, 9), move(1, 2), EMPTY, held(1, 1, 4), held(2, 1, 4));
        due("EMPTY (both 4): the last one went", wall().open(1, 9, 4).and(take(1)).open(2, 9), move(1, 2), EMPTY,
            held(1, 1, 4), held(2, 1, 4));
        due("EMPTY (both 4) before FULL by number", wall().open(1, 9).open(2, 10, times(10, 1)), move(1, 2), EMPTY,
            held(1, 1, 4), held(2, 1, 4));
        due("EMPTY (both 4) before FULL by weight", wall().open(1, 9).open(2, 9, 9), move(1, 2), EMPTY,
            held(1, 1, 4), held(2, 1, 4));
    }

    private static void moveFull() {
        promise("Promise 8, move");
        for (int i : END_HOOKS) {
            int j = 23 - i;
            due("FULL (both 4): one more than j's ROOM", wall().open(i, 99, 3, 4, 31).open(j, 60, 20, 10), move(i, j), FULL,
                held(i, 1, 4), held(j, 1, 4));
            due("FULL (both 4): j has 10 ITEMS", wall().open(i, 99, 3, 4).open(j, 99, times(10, 2)), move(i, j), FULL,
                held(i, 1, 4), held(j, 1, 4));
        }
        due("FULL (both 4): more than the whole ROOM", wall().open(1, 99, 10).open(2, 9), move(1, 2), FULL,
            held(1, 1, 4), held(2, 1, 4));
        due("FULL (both 4): j has no ROOM left", wall().open(1, 1, 1).open(2, 1, 1), move(1, 2), FULL,
            held(1, 1, 4), held(2, 1, 4));
        due("FULL (both 4): it is i's tenth ITEM again",
            wall().open(1, 55, 1, 2, 3, 4, 5, 6, 7, 8, 9, 10).open(2, 9), move(1, 2), FULL, held(1, 1, 4), held(2, 1, 4));
        due("FULL (both 4): both have 10 ITEMS", wall().open(1, 10, times(10, 1)).open(2, 10, times(10, 1)), move(1, 2),
            FULL, held(1, 1, 4), held(2, 1, 4));
    }

    private static void swapTaken() {
        promise("Promise 9, swap");
        for (int i : END_HOOKS) {
            int j = 23 - i;
            due("each weighs just the other's ROOM", wall().openLeft2(i, 10, 5, 3).openLeft2(j, 8, 1, 2, 4), swap(i, j), 5,
                hasItems(i, 1, 2, 4), hasItems(j, 5, 3), held(i, 1, 1), held(j, 1, 1));
            due("neither has any: 0", wall().openLeft2(i, 9).openLeft2(j, 9), swap(i, j), 0, held(i, 1, 1), held(j, 1, 1));
        }
        due("both are just full then", wall().openLeft2(1, 9, 7).openLeft2(2, 7, 2, 2, 3), swap(1, 2), 4,
            hasItems(1, 2, 2, 3), hasItems(2, 7), held(1, 1, 1), held(2, 1, 1));
        due("one has none", wall().openLeft2(1, 9, 7).openLeft2(2, 7), swap(1, 2), 1,
            hasItems(1), hasItems(2, 7), held(1, 1, 1), held(2, 1, 1));
        due("the other has none", wall().openLeft2(1, 7).openLeft2(2, 9, 7), swap(1, 2), 1,
            hasItems(1, 7), hasItems(2), held(1, 1, 1), held(2, 1, 1));
        due("both have 10 ITEMS", wall().openLeft2(1, 99, times(10, 2)).openLeft2(2, 99, times(10, 3)), swap(1, 2), 20,
            hasItems(1, times(10, 3)), hasItems(2, times(10, 2)), held(1, 1, 1), held(2, 1, 1));
        due("10 ITEMS against none", wall().openLeft2(1, 99, times(10, 2)).openLeft2(2, 20), swap(1, 2), 10,
            hasItems(1), hasItems(2, times(10, 2)), held(1, 1, 1), held(2, 1, 1));
        due("the most weight", wall().openLeft2(1, 1000, 1000).openLeft2(2, 1000, 999, 1), swap(1, 2), 3,
            hasItems(1, 999, 1), hasItems(2, 1000), held(1, 1, 1), held(2, 1, 1));
        Given swapped = wall().openLeft2(1, 99, 7).openLeft2(2, 99, 8).and(swap(1, 2), recode(1, 1), recode(2, 2));
        due("they are no longer one another's: put", swapped, put(1, 5), 2, hasItems(1, 8, 5), held(1, 1, 1));
        due("they are no longer one another's: take", swapped, take(2), 7, hasItems(2), held(2, 1, 1));
        due("a second swap brings them back", swapped, swap(2, 1), 2,
            hasItems(1, 7), hasItems(2, 8), held(1, 1, 1), held(2, 1, 1));
    }

    private static void swapWithinOne() {
        promise("Promise 9, swap");
        for (int i : END_HOOKS) {
            due("the same: its ITEMS twice", wall().openLeft2(i, 9, 4, 5), swap(i, i), 4, held(i, 2, 1));
            due("the same: without ITEMS", wall().openLeft2(i, 9), swap(i, i), 0, held(i, 2, 1));
        }
        due("the same: 10 ITEMS twice", wall().openLeft2(2, 10, times(10, 1)), swap(2, 2), 20, held(2, 2, 1));
    }

    private static void swapFull() {
        promise("Promise 9, swap");
        for (int i : END_HOOKS) {
            int j = 23 - i;
            due("FULL (both 4): one more than j's ROOM", wall().open(i, 10, 5, 4).open(j, 8, 1), swap(i, j), FULL,
                held(i, 1, 4), held(j, 1, 4));
            due("FULL (both 4): one more than i's ROOM", wall().open(i, 8, 1).open(j, 10, 5, 4), swap(i, j), FULL,
                held(i, 1, 4), held(j, 1, 4));
        }
        due("FULL (both 4): against one without ITEMS", wall().open(1, 10, 5, 4).open(2, 8), swap(1, 2), FULL,
            held(1, 1, 4), held(2, 1, 4));
        due("FULL (both 4): 10 ITEMS", wall().open(1, 10, times(10, 1)).open(2, 9, times(9, 1)), swap(1, 2), FULL,
            held(1, 1, 4), held(2, 1, 4));
    }
}
