/** Each promise by its ordinary inputs, the edges that the document names, and wrong inputs. */
public final class PromiseTest {
    private static final int MIN = Integer.MIN_VALUE;
    private static final int MAX = Integer.MAX_VALUE;
    private static final int[] NO_HOOKS = {-1, 24, MIN, MAX};

    private static int wrong = 0;

    public static void main(String[] args) {
        newObject();
        mount();
        unmount();
        open();
        shut();
        put();
        take();
        move();
        moveRefused();
        swap();
        swapRefused();
        find();
        weigh();
        weighThrown();
        drop();
        tally();
        first();
        recode();
        told();
        item();
        latch();
        badHoldsNothing();
        System.out.println(wrong == 0 ? "PromiseTest: all as due" : "PromiseTest: " + wrong + " not as due");
        if (wrong != 0) {
            System.exit(1);
        }
    }

    private static void due(String what, long got, long want) {
        if (got != want) {
            wrong++;
            System.out.println(what + " answered " + got + ", due is " + want);
        }
    }

    private static void held(String when, LockerWall wall, int i, int holds, int left) {
        due(when + ": HOLDS of " + i, wall.told(i, 7), holds);
        due(when + ": LEFT of " + i, wall.told(i, 8), left);
    }

    private static void items(String when, LockerWall wall, int i, int... weights) {
        int sum = 0;
        for (int k = 0; k < weights.length; k++) {
            due(when + ": item " + k + " of " + i, wall.item(i, k), weights[k]);
            sum += weights[k];
        }
        due(when + ": item behind the last of " + i, wall.item(i, weights.length), LockerWall.NONE);
        due(when + ": how many items of " + i, wall.told(i, 5), weights.length);
        due(when + ": weight of " + i, wall.told(i, 6), sum);
    }

    /** An open locker has been held once for its opening and once for each item. */
    private static void addOpen(LockerWall wall, int i, int room, int... weights) {
        due("mount " + i, wall.mount(i, room, i), 1);
        due("open " + i, wall.open(i, i), 1);
        for (int k = 0; k < weights.length; k++) {
            due("put " + weights[k] + " in " + i, wall.put(i, weights[k]), k + 1);
        }
    }

    private static void addShut(LockerWall wall, int i, int room, int... weights) {
        addOpen(wall, i, room, weights);
        due("shut " + i, wall.shut(i), 1);
    }

    private static void newObject() {
        LockerWall wall = new LockerWall();
        for (int i = 0; i < 24; i++) {
            due("new: told " + i, wall.told(i, 0), 0);
            due("new: room of " + i, wall.told(i, 1), LockerWall.BARE);
        }
        due("new: latch", wall.latch(), 0);
    }

    private static void mount() {
        LockerWall wall = new LockerWall();
        due("mount least room", wall.mount(0, 1, MIN), 1);
        due("mount most room", wall.mount(23, 1000, MAX), 1);
        int[] fresh = {1, 1000, MAX, 0, 0, 0, 0, 0, 0};
        for (int what = 0; what < fresh.length; what++) {
            due("mounted: told " + what, wall.told(23, what), fresh[what]);
        }
        due("mounted: code", wall.told(0, 2), MIN);
        due("mount twice", wall.mount(23, 5, 5), LockerWall.FULL);
        due("mount twice keeps the room", wall.told(23, 1), 1000);
        held("mount twice", wall, 23, 0, 0);
        for (int room : new int[] {0, 1001, -1, MIN, MAX}) {
            due("mount room " + room, wall.mount(5, room, 1), LockerWall.BAD);
            due("mount room on a locker " + room, wall.mount(23, room, 1), LockerWall.BAD);
        }
        due("mount bad leaves bare", wall.told(5, 0), 0);
    }

    private static void unmount() {
        LockerWall wall = new LockerWall();
        due("unmount bare", wall.unmount(4), LockerWall.BARE);
        due("unmount bare holds the latch", wall.latch(), 1);
        addOpen(wall, 4, 9, 3);
        due("unmount with items", wall.unmount(4), LockerWall.EMPTY);
        held("unmount with items", wall, 4, 3, 2);
        due("take", wall.take(4), 3);
        due("unmount an open one", wall.unmount(4), 5);
        due("unmounted is bare", wall.told(4, 0), 0);
        due("unmount again", wall.unmount(4), LockerWall.BARE);
        due("unmount holds the latch", wall.latch(), 4);
        due("mount anew", wall.mount(4, 8, 7), 1);
        int[] fresh = {1, 8, 7, 0, 0, 0, 0, 0, 0};
        for (int what = 0; what < fresh.length; what++) {
            due("mounted anew: told " + what, wall.told(4, what), fresh[what]);
        }
        due("unmount at once", wall.unmount(4), 1);
    }

    private static void open() {
        LockerWall wall = new LockerWall();
        due("open bare", wall.open(2, 0), LockerWall.BARE);
        wall.mount(2, 10, 77);
        due("open wrong", wall.open(2, 78), LockerWall.WRONG);
        held("open wrong", wall, 2, 1, 4);
        due("open wrong: tries", wall.told(2, 4), 1);
        due("open wrong: not open", wall.told(2, 3), 0);
        due("open", wall.open(2, 77), 1);
        held("open", wall, 2, 2, 1);
        due("open: tries", wall.told(2, 4), 0);
        due("open again", wall.open(2, 77), 1);
        for (int tries = 1; tries <= 3; tries++) {
            due("open wrong while open", wall.open(2, -77), LockerWall.WRONG);
            due("open wrong while open: tries", wall.told(2, 4), tries);
            due("open wrong while open: still open", wall.told(2, 3), 1);
        }
        due("open blocked", wall.open(2, 77), LockerWall.BLOCKED);
        held("open blocked", wall, 2, 7, 2);
        due("open blocked, wrong too", wall.open(2, 1), LockerWall.BLOCKED);
        due("open blocked: tries", wall.told(2, 4), 3);
        due("put in a blocked open one", wall.put(2, 1), 1);
        due("shut a blocked one", wall.shut(2), 1);
        due("open blocked and shut", wall.open(2, 77), LockerWall.BLOCKED);
        due("open blocked: not open", wall.told(2, 3), 0);
    }

    private static void shut() {
        LockerWall wall = new LockerWall();
        due("shut bare", wall.shut(6), LockerWall.BARE);
        addOpen(wall, 6, 10, 4);
        due("shut", wall.shut(6), 1);
        held("shut", wall, 6, 3, 1);
        due("shut: not open", wall.told(6, 3), 0);
        due("shut again", wall.shut(6), LockerWall.SHUT);
        held("shut again", wall, 6, 4, 2);
        items("shut", wall, 6, 4);
    }

    private static void put() {
        LockerWall wall = new LockerWall();
        due("put bare", wall.put(7, 1), LockerWall.BARE);
        addShut(wall, 7, 100);
        due("put shut", wall.put(7, 1), LockerWall.SHUT);
        held("put shut", wall, 7, 3, 2);
        wall.open(7, 7);
        due("put more than the room", wall.put(7, 101), LockerWall.FULL);
        held("put more than the room", wall, 7, 5, 4);
        due("put the whole room", wall.put(7, 100), 1);
        held("put the whole room", wall, 7, 6, 1);
        due("put one more", wall.put(7, 1), LockerWall.FULL);
        items("put one more", wall, 7, 100);
        addOpen(wall, 8, 1000, 1, 2, 3, 4, 5, 6, 7, 8, 9, 10);
        due("put an eleventh", wall.put(8, 1), LockerWall.FULL);
        held("put an eleventh", wall, 8, 12, 4);
        items("put an eleventh", wall, 8, 1, 2, 3, 4, 5, 6, 7, 8, 9, 10);
        addOpen(wall, 9, 1000, 1000);
        for (int w : new int[] {0, -1, 1001, MIN, MAX}) {
            due("put " + w, wall.put(9, w), LockerWall.BAD);
            due("put on bare " + w, wall.put(10, w), LockerWall.BAD);
        }
        held("put bad", wall, 9, 2, 1);
    }

    private static void take() {
        LockerWall wall = new LockerWall();
        due("take bare", wall.take(11), LockerWall.BARE);
        addOpen(wall, 11, 100, 5, 6);
        due("take", wall.take(11), 6);
        held("take", wall, 11, 4, 1);
        items("take", wall, 11, 5);
        wall.shut(11);
        due("take shut", wall.take(11), LockerWall.SHUT);
        held("take shut", wall, 11, 6, 2);
        items("take shut", wall, 11, 5);
        wall.open(11, 11);
        due("take the last", wall.take(11), 5);
        due("take none", wall.take(11), LockerWall.EMPTY);
        held("take none", wall, 11, 9, 4);
        wall.shut(11);
        due("take none, shut", wall.take(11), LockerWall.SHUT);
    }

    private static void move() {
        LockerWall wall = new LockerWall();
        addOpen(wall, 0, 50, 10, 40);
        addOpen(wall, 1, 50, 10);
        due("move to just the room", wall.move(0, 1), 40);
        held("move: outer", wall, 0, 4, 1);
        held("move: inner", wall, 1, 3, 1);
        items("move", wall, 0, 10);
        items("move", wall, 1, 10, 40);
        due("move within a full one", wall.move(1, 1), 40);
        held("move within a full one", wall, 1, 5, 1);
        items("move within a full one", wall, 1, 10, 40);
        addOpen(wall, 2, 50, 1, 1, 1, 1, 1, 1, 1, 1, 1, 1);
        due("move within one of ten items", wall.move(2, 2), 1);
        held("move within one of ten items", wall, 2, 13, 1);
        due("latch after move", wall.latch(), 0);
    }

    private static void moveRefused() {
        LockerWall wall = new LockerWall();
        addOpen(wall, 0, 100, 10, 40);
        addOpen(wall, 1, 49, 10);
        due("move too much", wall.move(0, 1), LockerWall.FULL);
        held("move too much: outer", wall, 0, 4, 4);
        held("move too much: inner", wall, 1, 3, 4);
        items("move too much", wall, 0, 10, 40);
        items("move too much", wall, 1, 10);
        addOpen(wall, 2, 50, 1, 1, 1, 1, 1, 1, 1, 1, 1, 1);
        due("move an eleventh", wall.move(1, 2), LockerWall.FULL);
        items("move an eleventh", wall, 1, 10);
        addOpen(wall, 3, 1);
        due("move none", wall.move(3, 0), LockerWall.EMPTY);
        held("move none: outer", wall, 3, 2, 4);
        held("move none: inner", wall, 0, 5, 4);
        due("move none within", wall.move(3, 3), LockerWall.EMPTY);
        held("move none within", wall, 3, 4, 4);
        addShut(wall, 4, 1);
        due("move none to shut", wall.move(3, 4), LockerWall.SHUT);
        held("move none to shut: outer", wall, 3, 5, 2);
        held("move none to shut: inner", wall, 4, 3, 2);
        due("move shut to open", wall.move(4, 0), LockerWall.SHUT);
        held("move shut to open: inner", wall, 0, 6, 2);
        due("move shut within", wall.move(4, 4), LockerWall.SHUT);
        held("move shut within", wall, 4, 6, 2);
        due("move shut to bare", wall.move(4, 9), LockerWall.BARE);
        held("move shut to bare", wall, 4, 7, 4);
        due("move bare to shut", wall.move(9, 4), LockerWall.BARE);
        due("move bare within", wall.move(9, 9), LockerWall.BARE);
        held("move bare to shut", wall, 4, 7, 4);
    }

    private static void swap() {
        LockerWall wall = new LockerWall();
        addOpen(wall, 0, 30, 10, 15);
        addOpen(wall, 1, 25, 7);
        due("swap to just the room", wall.swap(0, 1), 3);
        held("swap: outer", wall, 0, 4, 1);
        held("swap: inner", wall, 1, 3, 1);
        items("swap", wall, 0, 7);
        items("swap", wall, 1, 10, 15);
        due("swap keeps the room of the outer", wall.told(0, 1), 30);
        due("swap keeps the code of the inner", wall.told(1, 2), 1);
        due("swap within", wall.swap(1, 1), 4);
        held("swap within", wall, 1, 5, 1);
        items("swap within", wall, 1, 10, 15);
        due("put after swap", wall.put(0, 8), 2);
        items("put after swap", wall, 0, 7, 8);
        items("put after swap, the other", wall, 1, 10, 15);
        addOpen(wall, 2, 5);
        addOpen(wall, 3, 5);
        due("swap of none", wall.swap(2, 3), 0);
        held("swap of none: outer", wall, 2, 2, 1);
    }

    private static void swapRefused() {
        LockerWall wall = new LockerWall();
        addOpen(wall, 0, 30, 10, 15);
        addOpen(wall, 1, 24, 7);
        for (int turn = 0; turn < 2; turn++) {
            due("swap too much, turn " + turn, wall.swap(turn, 1 - turn), LockerWall.FULL);
            held("swap too much, turn " + turn, wall, 0, 4 + turn, 4);
            held("swap too much, turn " + turn, wall, 1, 3 + turn, 4);
        }
        items("swap too much", wall, 0, 10, 15);
        items("swap too much", wall, 1, 7);
        addShut(wall, 2, 1);
        due("swap too much with shut", wall.swap(0, 2), LockerWall.SHUT);
        held("swap too much with shut: outer", wall, 0, 6, 2);
        held("swap too much with shut: inner", wall, 2, 3, 2);
        due("swap shut with open", wall.swap(2, 1), LockerWall.SHUT);
        held("swap shut with open: inner", wall, 1, 5, 2);
        due("swap shut within", wall.swap(2, 2), LockerWall.SHUT);
        held("swap shut within", wall, 2, 6, 2);
        due("swap shut with bare", wall.swap(2, 9), LockerWall.BARE);
        held("swap shut with bare", wall, 2, 7, 4);
        due("swap bare with shut", wall.swap(9, 2), LockerWall.BARE);
        held("swap bare with shut", wall, 2, 7, 4);
    }

    private static void find() {
        LockerWall wall = new LockerWall();
        due("find on a bare wall", wall.find(1), LockerWall.NONE);
        addShut(wall, 3, 50, 9);
        addOpen(wall, 8, 50, 4, 5);
        addOpen(wall, 15, 1000, 1, 9, 2);
        addOpen(wall, 23, 1000, 1000);
        due("find", wall.find(9), 15);
        held("find: shut", wall, 3, 4, 3);
        held("find: without it", wall, 8, 4, 1);
        held("find: with it", wall, 15, 5, 3);
        held("find: behind it", wall, 23, 2, 1);
        due("find a sum", wall.find(12), LockerWall.NONE);
        held("find none", wall, 15, 6, 1);
        held("find none: the last hook", wall, 23, 3, 1);
        due("find the most on the last hook", wall.find(1000), 23);
        held("find the most on the last hook", wall, 23, 4, 3);
        for (int w : new int[] {0, -1, 1001, MIN, MAX}) {
            due("find " + w, wall.find(w), LockerWall.BAD);
        }
        held("find bad", wall, 3, 6, 3);
        due("take what was found", wall.take(23), 1000);
        due("find one that went", wall.find(1000), LockerWall.NONE);
        due("latch after find", wall.latch(), 0);
    }

    private static void weigh() {
        LockerWall wall = new LockerWall();
        due("weigh none", wall.weigh(5, 0), 0);
        due("weigh none holds the latch", wall.latch(), 1);
        for (int i = 0; i < 24; i++) {
            addOpen(wall, i, 1000, i + 1);
        }
        wall.shut(0);
        due("weigh none of a full wall", wall.weigh(0, 0), 0);
        held("weigh none of a full wall", wall, 0, 3, 1);
        due("weigh twelve past the end", wall.weigh(20, 12), 21 + 22 + 23 + 24 + 36);
        held("weigh: a shut one within", wall, 0, 4, 2);
        held("weigh: the outermost", wall, 20, 3, 2);
        held("weigh: the innermost", wall, 7, 3, 2);
        held("weigh: before it", wall, 19, 2, 1);
        held("weigh: behind it", wall, 8, 2, 1);
        due("weigh one", wall.weigh(23, 1), 24);
        due("latch after weigh", wall.latch(), 4);
        for (int n : new int[] {-1, 13, MIN, MAX}) {
            due("weigh n " + n, wall.weigh(0, n), LockerWall.BAD);
        }
        held("weigh bad", wall, 0, 4, 2);
        due("latch after bad weigh", wall.latch(), 4);
    }

    private static void weighThrown() {
        LockerWall wall = new LockerWall();
        addOpen(wall, 22, 9, 1);
        addShut(wall, 23, 9, 2);
        addOpen(wall, 0, 9, 4);
        addOpen(wall, 2, 9, 8);
        due("weigh past bare", wall.weigh(22, 5), LockerWall.BARE);
        held("weigh past bare: outermost", wall, 22, 3, 4);
        held("weigh past bare: shut", wall, 23, 4, 4);
        held("weigh past bare: innermost", wall, 0, 3, 4);
        held("weigh past bare: behind", wall, 2, 2, 1);
        due("weigh from bare", wall.weigh(1, 2), LockerWall.BARE);
        held("weigh from bare: behind", wall, 2, 2, 1);
        due("weigh up to bare", wall.weigh(22, 3), 7);
        held("weigh up to bare: innermost", wall, 0, 4, 2);
        due("latch after thrown weigh", wall.latch(), 3);
    }

    private static void drop() {
        LockerWall wall = new LockerWall();
        due("drop bare", wall.drop(5, 1, 1), LockerWall.BARE);
        addOpen(wall, 5, 1000, 1, 2, 3, 4, 5, 6, 7, 8, 9, 10);
        due("drop by number", wall.drop(5, 2, MAX), 19);
        held("drop by number", wall, 5, 12, 1);
        items("drop by number", wall, 5, 1, 2, 3, 4, 5, 6, 7, 8);
        due("drop by just the weight", wall.drop(5, 10, 15), 15);
        due("drop by more than the weight", wall.drop(5, 10, 7), 11);
        items("drop by more than the weight", wall, 5, 1, 2, 3, 4);
        due("drop at least one", wall.drop(5, 10, 0), 4);
        due("drop at least one, below all", wall.drop(5, 10, MIN), 3);
        wall.shut(5);
        due("drop shut", wall.drop(5, 1, 1), LockerWall.SHUT);
        held("drop shut", wall, 5, 18, 2);
        items("drop shut", wall, 5, 1, 2);
        wall.open(5, 5);
        due("drop all", wall.drop(5, 10, 1000), 3);
        due("drop of none", wall.drop(5, 10, 1), 0);
        held("drop of none", wall, 5, 21, 1);
        for (int n : new int[] {0, -1, 11, MIN, MAX}) {
            due("drop n " + n, wall.drop(5, n, 1), LockerWall.BAD);
            due("drop n on bare " + n, wall.drop(6, n, 1), LockerWall.BAD);
        }
        held("drop bad", wall, 5, 21, 1);
        addOpen(wall, 7, 10, 1, 1, 1, 1, 1, 1, 1, 1, 1, 1);
        due("drop ten", wall.drop(7, 10, 11), 10);
    }

    private static void tally() {
        LockerWall wall = new LockerWall();
        due("tally of a bare wall", wall.tally(), 0);
        addShut(wall, 0, 1000, 1, 2);
        addOpen(wall, 4, 1000, 999, 1);
        addOpen(wall, 9, 1000);
        addOpen(wall, 23, 1000, 1000);
        due("tally", wall.tally(), 3 + 5 * 1000 + 24 * 1000);
        held("tally: shut", wall, 0, 5, 1);
        held("tally: open", wall, 4, 4, 1);
        held("tally: without items", wall, 9, 2, 1);
        held("tally: last", wall, 23, 3, 1);
        wall.shut(9);
        wall.shut(9);
        held("before tally", wall, 9, 4, 2);
        wall.tally();
        held("tally sets what was left otherwise", wall, 9, 5, 1);
        due("latch after tally", wall.latch(), 3);
    }

    private static void first() {
        LockerWall wall = new LockerWall();
        due("first on a bare wall", wall.first(0), LockerWall.NONE);
        addOpen(wall, 1, 100, 9);
        addShut(wall, 6, 100, 10, 10);
        addOpen(wall, 23, 100, 30);
        due("first of just the weight, shut", wall.first(20), 6);
        held("first: lighter", wall, 1, 3, 1);
        held("first: that one", wall, 6, 5, 2);
        held("first: behind it", wall, 23, 2, 1);
        due("first on the last hook", wall.first(21), 23);
        held("first on the last hook: lighter", wall, 6, 6, 1);
        held("first on the last hook", wall, 23, 3, 2);
        due("first none", wall.first(31), LockerWall.NONE);
        held("first none", wall, 23, 4, 1);
        due("first none at all", wall.first(MAX), LockerWall.NONE);
        due("first of nothing", wall.first(0), 1);
        for (int w : new int[] {-1, MIN}) {
            due("first " + w, wall.first(w), LockerWall.BAD);
        }
        held("first bad", wall, 1, 7, 2);
        due("latch after first", wall.latch(), 0);
    }

    private static void recode() {
        LockerWall wall = new LockerWall();
        due("recode bare", wall.recode(12, 1), LockerWall.BARE);
        addOpen(wall, 12, 5);
        due("recode", wall.recode(12, MIN), 1);
        held("recode", wall, 12, 4, 2);
        due("recode: code", wall.told(12, 2), MIN);
        wall.shut(12);
        due("open by the old code", wall.open(12, 12), LockerWall.WRONG);
        due("recode shut", wall.recode(12, 3), LockerWall.WRONG);
        held("recode shut", wall, 12, 9, 4);
        due("recode shut: code", wall.told(12, 2), MIN);
        due("recode shut is no wrong try", wall.told(12, 4), 1);
        due("open by the new code", wall.open(12, MIN), 1);
        wall.open(12, 0);
        due("recode after a wrong try", wall.recode(12, 5), 1);
        due("recode keeps the wrong tries", wall.told(12, 4), 1);
        due("recode keeps it open", wall.told(12, 3), 1);
    }

    private static void told() {
        LockerWall wall = new LockerWall();
        addOpen(wall, 13, 600, 7, 8);
        wall.open(13, 1);
        wall.open(13, 2);
        int[] facts = {1, 600, 13, 1, 2, 2, 15, 5, 4};
        for (int turn = 0; turn < 2; turn++) {
            for (int what = 0; what < facts.length; what++) {
                due("told " + what, wall.told(13, what), facts[what]);
            }
        }
        due("told whether on bare", wall.told(14, 0), 0);
        for (int what = 1; what <= 8; what++) {
            due("told on bare " + what, wall.told(14, what), LockerWall.BARE);
        }
        for (int what : new int[] {-1, 9, MIN, MAX}) {
            due("told " + what, wall.told(13, what), LockerWall.BAD);
            due("told on bare " + what, wall.told(14, what), LockerWall.BAD);
        }
    }

    private static void item() {
        LockerWall wall = new LockerWall();
        addShut(wall, 16, 600, 7, 8, 9);
        items("item", wall, 16, 7, 8, 9);
        for (int k : new int[] {-1, 3, 9, 10, 11, MIN, MAX}) {
            due("item " + k, wall.item(16, k), LockerWall.NONE);
            due("item on bare " + k, wall.item(17, k), LockerWall.BARE);
        }
        held("item", wall, 16, 5, 1);
        wall.open(16, 16);
        wall.take(16);
        due("item that went", wall.item(16, 2), LockerWall.NONE);
    }

    private static void latch() {
        LockerWall wall = new LockerWall();
        addOpen(wall, 0, 10, 1);
        due("latch at first", wall.latch(), 0);
        wall.tally();
        wall.weigh(0, 1);
        wall.weigh(0, 2);
        wall.unmount(0);
        wall.unmount(1);
        due("latch", wall.latch(), 5);
        wall.swap(0, 0);
        wall.move(0, 0);
        wall.find(1);
        wall.first(1);
        wall.recode(0, 1);
        wall.drop(0, 1, 1);
        wall.shut(0);
        due("latch again", wall.latch(), 5);
    }

    private static void badHoldsNothing() {
        LockerWall wall = new LockerWall();
        addOpen(wall, 0, 10, 1);
        addOpen(wall, 23, 10, 1);
        for (int i : NO_HOOKS) {
            due("mount " + i, wall.mount(i, 1, 1), LockerWall.BAD);
            due("unmount " + i, wall.unmount(i), LockerWall.BAD);
            due("open " + i, wall.open(i, 0), LockerWall.BAD);
            due("shut " + i, wall.shut(i), LockerWall.BAD);
            due("put " + i, wall.put(i, 1), LockerWall.BAD);
            due("take " + i, wall.take(i), LockerWall.BAD);
            due("move from " + i, wall.move(i, 0), LockerWall.BAD);
            due("move to " + i, wall.move(0, i), LockerWall.BAD);
            due("move bare to " + i, wall.move(5, i), LockerWall.BAD);
            due("swap of " + i, wall.swap(i, 0), LockerWall.BAD);
            due("swap with " + i, wall.swap(0, i), LockerWall.BAD);
            due("swap bare with " + i, wall.swap(5, i), LockerWall.BAD);
            due("weigh " + i, wall.weigh(i, 1), LockerWall.BAD);
            due("weigh none " + i, wall.weigh(i, 0), LockerWall.BAD);
            due("drop " + i, wall.drop(i, 1, 1), LockerWall.BAD);
            due("recode " + i, wall.recode(i, 1), LockerWall.BAD);
            due("told " + i, wall.told(i, 0), LockerWall.BAD);
            due("item " + i, wall.item(i, 0), LockerWall.BAD);
        }
        held("bad", wall, 0, 2, 1);
        held("bad", wall, 23, 2, 1);
        due("latch after bad", wall.latch(), 0);
    }
}
