import java.util.List;

/** The boundaries that 'Terms' draws for every act, and the new object. */
public final class TermsBoundaryTest extends Boundary {
    public static void main(String[] args) {
        newObject();
        badHooks();
        badComesBeforeAll();
        bareHooks();
        bareComesBeforeWhatIsTold();
        eachWallItsOwn();
        lastCallPromised();
        end(TermsBoundaryTest.class);
    }

    private static void newObject() {
        promise("Promise 1, a new object");
        for (int i = 0; i < 24; i++) {
            due("all HOOKS are BARE", wall(), told(i, 0), 0);
            due("all HOOKS are BARE: a locker can come", wall(), mount(i, 7, 8), 1, isMounted(i, 7, 8));
            due("all HOOKS are BARE: there is no item", wall(), item(i, 0), BARE);
        }
        due("the latch was not held", wall(), latch(), 0);
    }

    /** An open and a shut locker at each end of the wall, so that a slip by one hook meets a locker. */
    private static Given ends() {
        return wall().open(0, 100, 5, 6).shut(1, 100, 7).shut(22, 100, 8).open(23, 100, 9);
    }

    private static List<Call> actsOn(int i) {
        return List.of(mount(i, 1, 1), unmount(i), open(i, i), open(i, 0), shut(i), put(i, 1), take(i),
            move(i, 0), move(0, i), move(i, i), swap(i, 23), swap(23, i), swap(i, i),
            weigh(i, 0), weigh(i, 1), weigh(i, 12), drop(i, 1, 1), recode(i, 1));
    }

    private static void badHooks() {
        promise("Terms, HOOKS 0 .. 23");
        for (int i : NO_HOOKS) {
            for (Call call : actsOn(i)) {
                due("BAD, and nothing is held: hook " + i, ends(), call, BAD);
            }
            for (int what = 0; what <= 8; what++) {
                due("BAD: told of hook " + i, ends(), told(i, what), BAD);
            }
            due("BAD: item of hook " + i, ends(), item(i, 0), BAD);
        }
    }

    private static void badComesBeforeAll() {
        promise("Terms, BAD stands before the rest");
        for (int i : NO_HOOKS) {
            due("BAD before BARE, on either side", ends(), move(5, i), BAD);
            due("BAD before BARE, on either side", ends(), move(i, 5), BAD);
            due("BAD before BARE, on either side", ends(), swap(5, i), BAD);
            due("BAD before BARE, on either side", ends(), swap(i, 5), BAD);
            due("BAD before SHUT, on either side", ends(), move(1, i), BAD);
            due("BAD before SHUT, on either side", ends(), swap(i, 1), BAD);
            due("BAD though none is weighed", wall(), weigh(i, 0), BAD);
        }
        for (int w : NO_WEIGHTS) {
            due("BAD before BARE: put", ends(), put(5, w), BAD);
            due("BAD before SHUT: put", ends(), put(1, w), BAD);
            due("BAD before FULL: mount", ends(), mount(0, w, 0), BAD);
        }
        due("BAD before FULL: put", wall().open(0, 10, times(10, 1)), put(0, 0), BAD);
        for (int n : new int[] {0, 11}) {
            due("BAD before BARE: drop", ends(), drop(5, n, 1), BAD);
            due("BAD before SHUT: drop", ends(), drop(1, n, 1), BAD);
        }
        due("BAD before BARE: weigh", ends(), weigh(5, -1), BAD);
        due("BAD before BARE: weigh", ends(), weigh(5, 13), BAD);
        due("BAD before BARE: told", ends(), told(5, -1), BAD);
        due("BAD before BARE: told", ends(), told(5, 9), BAD);
    }

    private static void bareHooks() {
        promise("Terms, where a HOOK is BARE");
        // Hook 0 and hook 23 are bare here, and those beside them are not.
        Given given = wall().open(1, 100, 5, 6).open(22, 100, 9);
        for (int i : new int[] {0, 23, 12}) {
            for (Call call : List.of(open(i, i), shut(i), put(i, 1), take(i), drop(i, 1, 1), recode(i, 1),
                    move(i, 1), move(i, i), move(i, 12), swap(i, 1), swap(i, i), swap(i, 12))) {
                due("nothing is held where the first hook is bare", given, call, BARE);
            }
            due("the latch was held around it", given, unmount(i), BARE, latchHeld());
            due("the latch was held around it", given, weigh(i, 1), BARE, latchHeld());
            due("the latch was held around it", given, weigh(i, 12), BARE, latchHeld());
            due("what is held around it is let go by (4)", given, move(1, i), BARE, held(1, 1, 4));
            due("what is held around it is let go by (4)", given, move(22, i), BARE, held(22, 1, 4));
            due("what is held around it is let go by (4)", given, swap(1, i), BARE, held(1, 1, 4));
            due("what is held around it is let go by (4)", given, swap(22, i), BARE, held(22, 1, 4));
        }
        due("BARE again, once its locker went", wall().fresh(3, 9).and(unmount(3)), open(3, 3), BARE);
    }

    private static void bareComesBeforeWhatIsTold() {
        promise("Terms, BARE stands before what is told");
        Given given = wall().shut(0, 10, 10).open(1, 10);
        due("BARE before SHUT", given, move(0, 5), BARE, held(0, 1, 4));
        due("BARE before SHUT", given, swap(0, 5), BARE, held(0, 1, 4));
        due("BARE before SHUT, the other way", given, move(5, 0), BARE);
        due("BARE before SHUT, the other way", given, swap(5, 0), BARE);
        due("BARE before EMPTY", given, move(1, 5), BARE, held(1, 1, 4));
        due("item: BARE before NONE", given, item(5, 10), BARE);
        due("item: BARE before NONE", given, item(5, -1), BARE);
    }

    private static void eachWallItsOwn() {
        promise("Terms, what is the wall's own");
        due("THE LATCH is the wall's own", wall().and(tally()), latch(), 1);
        due("THE LATCH is the wall's own, held once more", wall().and(tally()), tally(), 0, latchHeld());
        due("HOOKS are the wall's own", wall().fresh(0, 9), unmount(0), 1, isBare(0), latchHeld());
        due("ITEMS are the wall's own", wall().openLeft2(0, 9, 4), put(0, 5), 2, hasItems(0, 4, 5), held(0, 1, 1));
    }

    private static void lastCallPromised() {
        promise("What it is, at most 512 calls");
        Given recoded = wall().open(0, 1);
        Given tallied = wall().and(tally());
        Given remounted = wall().fresh(0, 1);
        for (int k = 0; k < 509; k++) {
            recoded.and(recode(0, k));
            tallied.and(tally());
        }
        for (int k = 0; k < 255; k++) {
            remounted.and(unmount(0), mount(0, 1, k));
        }
        dueAnswer("the last call: HOLDS", recoded, told(0, 7), 1 + 3 * 509);
        dueAnswer("the last call: CODE", recoded, told(0, 2), 508);
        dueAnswer("the last call: the latch", tallied.and(tally()), latch(), 511);
        dueAnswer("the last call: a locker of many", remounted, unmount(0), 1);
    }
}
