import java.util.ArrayList;
import java.util.Arrays;
import java.util.List;
import java.util.function.Consumer;
import java.util.function.ToLongFunction;
import java.util.stream.Collectors;

/**
 * What the boundary tests share. A test is one call on a wall that was made ready for it:
 * its answer must be the one due, and of all that the wall tells nothing may differ but the changes named.
 */
abstract class Boundary {
    static final int BAD = LockerWall.BAD, BARE = LockerWall.BARE, SHUT = LockerWall.SHUT;
    static final int BLOCKED = LockerWall.BLOCKED, FULL = LockerWall.FULL, EMPTY = LockerWall.EMPTY;
    static final int WRONG = LockerWall.WRONG, NONE = LockerWall.NONE;
    static final int MIN = Integer.MIN_VALUE, MAX = Integer.MAX_VALUE;
    // Those of 65,536 and more would pass where the upper half of a number is not looked at.
    static final int[] NO_HOOKS = {-1, 24, 65536, MIN, MAX};
    static final int[] NO_WEIGHTS = {0, 1001, -1, 65537, MIN, MAX};
    static final int[] END_HOOKS = {0, 23};

    private static final int HOOKS = 24;
    private static final int MOST_CALLS = 512;

    private static String promise = "";
    private static String sentence = "";
    private static int tests = 0;
    private static int faults = 0;

    record Call(String text, ToLongFunction<LockerWall> act) { }

    /** What a call does to the state of a wall, beside its answer. */
    interface Change extends Consumer<State> { }

    static final class Box {
        long room;
        long code;
        long open;
        long wrong;
        long count;
        long weight;
        long holds;
        long left;
        final List<Long> items = new ArrayList<>();

        void setItems(int... weights) {
            items.clear();
            Arrays.stream(weights).asLongStream().forEach(items::add);
            count = weights.length;
            weight = Arrays.stream(weights).sum();
        }

        @Override
        public String toString() {
            return "ROOM " + room + ", CODE " + code + ", OPEN " + open + ", WRONG " + wrong + ", ITEMS " + items
                + " (" + count + ", weight " + weight + "), HOLDS " + holds + ", LEFT " + left;
        }
    }

    static final class State {
        final Box[] boxes = new Box[HOOKS];
        long latch;

        Box at(int i) {
            if (boxes[i] == null) {
                throw new IllegalStateException("the test names a locker that is not there: " + i);
            }
            return boxes[i];
        }

        String line(int i) {
            return boxes[i] == null ? "bare" : boxes[i].toString();
        }

        @Override
        public String toString() {
            return Arrays.toString(boxes) + latch;
        }
    }

    /** The calls that make a wall ready; the code of each locker is its hook. */
    static final class Given {
        private final List<Call> taken = new ArrayList<>();
        private final List<Boolean> isRefused = new ArrayList<>();

        Given and(Call... calls) {
            return add(false, calls);
        }

        Given refused(Call... calls) {
            return add(true, calls);
        }

        private Given add(boolean refused, Call... calls) {
            for (Call call : calls) {
                taken.add(call);
                isRefused.add(refused);
            }
            return this;
        }

        /** LEFT is 0. */
        Given fresh(int i, int room) {
            return and(Boundary.mount(i, room, i));
        }

        /** LEFT is 1. */
        Given open(int i, int room, int... weights) {
            fresh(i, room).and(Boundary.open(i, i));
            for (int w : weights) {
                and(Boundary.put(i, w));
            }
            return this;
        }

        /** LEFT is 1. */
        Given shut(int i, int room, int... weights) {
            return open(i, room, weights).and(Boundary.shut(i));
        }

        /** LEFT is 2, so that a 1 that comes can be seen. */
        Given openLeft2(int i, int room, int... weights) {
            return open(i, room, weights).and(Boundary.recode(i, i));
        }

        /** LEFT is 2. */
        Given shutLeft2(int i, int room, int... weights) {
            return shut(i, room, weights).refused(Boundary.shut(i));
        }

        /** LEFT is 4. */
        Given wrongTries(int i, int n) {
            for (int k = 0; k < n; k++) {
                refused(Boundary.open(i, ~i));
            }
            return this;
        }
    }

    private static final class Run {
        private final LockerWall wall = new LockerWall();
        private int calls = 0;

        long ask(Call call) {
            calls++;
            if (calls > MOST_CALLS) {
                throw new IllegalStateException("the test needs more calls than are promised");
            }
            return call.act().applyAsLong(wall);
        }

        void prepare(Given given) {
            for (int k = 0; k < given.taken.size(); k++) {
                Call call = given.taken.get(k);
                long answer = ask(call);
                if (answer < 0 != given.isRefused.get(k)) {
                    fault("before it, " + call.text() + " answered " + answer);
                }
            }
        }

        State state() {
            State state = new State();
            for (int i = 0; i < HOOKS; i++) {
                if (ask(told(i, 0)) != 0) {
                    state.boxes[i] = box(i);
                }
            }
            state.latch = ask(latch());
            return state;
        }

        private Box box(int i) {
            Box box = new Box();
            box.room = ask(told(i, 1));
            box.code = ask(told(i, 2));
            box.open = ask(told(i, 3));
            box.wrong = ask(told(i, 4));
            box.count = ask(told(i, 5));
            box.weight = ask(told(i, 6));
            box.holds = ask(told(i, 7));
            box.left = ask(told(i, 8));
            long w = ask(item(i, 0));
            for (int k = 1; k < 12 && w >= 0; k++) {
                box.items.add(w);
                w = ask(item(i, k));
            }
            return box;
        }
    }

    /** The promise that the next tests are of. */
    static void promise(String which) {
        promise = which;
    }

    private static void fault(String what) {
        faults++;
        System.out.println(promise + " | " + sentence + " | " + what);
    }

    /**
     * One test: what is not among the changes must be as it is on a twin that did not get the call.
     * Both walls are in use at once, so that what they shared would be seen.
     */
    static void due(String said, Given given, Call call, long answer, Change... changes) {
        tests++;
        sentence = said;
        Run twin = new Run();
        Run run = new Run();
        twin.prepare(given);
        run.prepare(given);
        long got = run.ask(call);
        State want = twin.state();
        for (Change change : changes) {
            apply(change, want);
        }
        if (got != answer) {
            fault(call.text() + " answered " + got + ", due is " + answer);
        }
        compare(call, run.state(), want);
    }

    /** One test of the answer alone, for runs that leave no calls to ask for the state. */
    static void dueAnswer(String said, Given given, Call call, long answer) {
        tests++;
        sentence = said;
        Run run = new Run();
        run.prepare(given);
        long got = run.ask(call);
        if (got != answer) {
            fault(call.text() + ", call " + run.calls + ", answered " + got + ", due is " + answer);
        }
    }

    // A change that changes nothing would let a broken sentence pass.
    private static void apply(Change change, State state) {
        String before = state.toString();
        change.accept(state);
        if (state.toString().equals(before)) {
            fault("the test is void: a change that it names is none");
        }
    }

    private static void compare(Call call, State got, State want) {
        for (int i = 0; i < HOOKS; i++) {
            if (!got.line(i).equals(want.line(i))) {
                fault("after " + call.text() + " hook " + i + " is " + got.line(i) + "; due is " + want.line(i));
            }
        }
        if (got.latch != want.latch) {
            fault("after " + call.text() + " the latch was held " + got.latch + " times, due is " + want.latch);
        }
    }

    static void end(Class<?> test) {
        System.out.println(test.getSimpleName() + ": " + tests + " boundary tests, " + faults + " faults");
        if (faults != 0 || tests == 0) {
            System.exit(1);
        }
    }

    static Given wall() {
        return new Given();
    }

    static int[] times(int n, int w) {
        int[] weights = new int[n];
        Arrays.fill(weights, w);
        return weights;
    }

    static Change held(int i, int times, int left) {
        return state -> {
            Box box = state.at(i);
            if (box.left == left) {
                fault("the test is void: LEFT of " + i + " was " + left + " before");
            }
            box.holds += times;
            box.left = left;
        };
    }

    /** Each of n hooks from i on, once; behind 23 comes 0. */
    static Change heldRow(int i, int n, int left) {
        return state -> {
            for (int k = 0; k < n; k++) {
                held((i + k) % HOOKS, 1, left).accept(state);
            }
        };
    }

    static Change latchHeld() {
        return state -> state.latch++;
    }

    static Change hasItems(int i, int... weights) {
        return state -> state.at(i).setItems(weights);
    }

    static Change isOpen(int i, int open) {
        return state -> state.at(i).open = open;
    }

    static Change hasWrongTries(int i, int n) {
        return state -> state.at(i).wrong = n;
    }

    static Change hasCode(int i, int code) {
        return state -> state.at(i).code = code;
    }

    static Change isBare(int i) {
        return state -> state.boxes[i] = null;
    }

    static Change isMounted(int i, int room, int code) {
        return state -> {
            state.boxes[i] = new Box();
            state.boxes[i].room = room;
            state.boxes[i].code = code;
        };
    }

    private static Call call(String name, ToLongFunction<LockerWall> act, int... numbers) {
        String text = Arrays.stream(numbers).mapToObj(Integer::toString).collect(Collectors.joining(", "));
        return new Call(name + "(" + text + ")", act);
    }

    static Call mount(int i, int room, int code) {
        return call("mount", wall -> wall.mount(i, room, code), i, room, code);
    }

    static Call unmount(int i) {
        return call("unmount", wall -> wall.unmount(i), i);
    }

    static Call open(int i, int code) {
        return call("open", wall -> wall.open(i, code), i, code);
    }

    static Call shut(int i) {
        return call("shut", wall -> wall.shut(i), i);
    }

    static Call put(int i, int w) {
        return call("put", wall -> wall.put(i, w), i, w);
    }

    static Call take(int i) {
        return call("take", wall -> wall.take(i), i);
    }

    static Call move(int i, int j) {
        return call("move", wall -> wall.move(i, j), i, j);
    }

    static Call swap(int i, int j) {
        return call("swap", wall -> wall.swap(i, j), i, j);
    }

    static Call find(int w) {
        return call("find", wall -> wall.find(w), w);
    }

    static Call weigh(int i, int n) {
        return call("weigh", wall -> wall.weigh(i, n), i, n);
    }

    static Call drop(int i, int n, int m) {
        return call("drop", wall -> wall.drop(i, n, m), i, n, m);
    }

    static Call tally() {
        return call("tally", LockerWall::tally);
    }

    static Call first(int w) {
        return call("first", wall -> wall.first(w), w);
    }

    static Call recode(int i, int code) {
        return call("recode", wall -> wall.recode(i, code), i, code);
    }

    static Call told(int i, int what) {
        return call("told", wall -> wall.told(i, what), i, what);
    }

    static Call item(int i, int k) {
        return call("item", wall -> wall.item(i, k), i, k);
    }

    static Call latch() {
        return call("latch", LockerWall::latch);
    }
}
