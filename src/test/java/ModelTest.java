import java.util.ArrayList;
import java.util.List;
import java.util.Random;
import java.util.TreeMap;

/**
 * Mixed calls against a second wall, which holds its lockers with Java's own try, finally and throw:
 * the class may use none of these, so a slip in one is not a slip in the other.
 */
public final class ModelTest {
    private static final int RUNS = 6000;
    // With all that is asked at its end, a run stays within the document's 512 calls.
    private static final int CALLS = 240;

    private static final class Thrown extends RuntimeException {
        private static final long serialVersionUID = 1;
        final int answer;

        Thrown(int answer) {
            super(null, null, false, false);
            this.answer = answer;
        }
    }

    private record Ending(int left, long answer) { }

    private interface Within {
        Ending with(Box box);
    }

    private interface Act {
        long answer();
    }

    private static final class Box {
        final int room;
        int code;
        boolean open;
        int wrong;
        int holds;
        int left;
        List<Integer> items = new ArrayList<>();

        Box(int room, int code) {
            this.room = room;
            this.code = code;
        }

        int weight() {
            return items.stream().mapToInt(Integer::intValue).sum();
        }

        void putOrThrow(int w) {
            if (items.size() == 10 || weight() + w > room) {
                throw new Thrown(LockerWall.FULL);
            }
            items.add(w);
        }

        int takeOrThrow() {
            if (items.isEmpty()) {
                throw new Thrown(LockerWall.EMPTY);
            }
            return items.remove(items.size() - 1);
        }
    }

    private static final class Model {
        final TreeMap<Integer, Box> boxes = new TreeMap<>();
        int latch;

        static Ending end(long answer) {
            return new Ending(1, answer);
        }

        static Ending answer(long answer) {
            return new Ending(2, answer);
        }

        static Ending leave(long answer) {
            return new Ending(3, answer);
        }

        Ending hold(int i, Within body) {
            Box box = boxes.get(i);
            if (box == null) {
                throw new Thrown(LockerWall.BARE);
            }
            box.holds++;
            int left = 4;
            try {
                Ending ending = body.with(box);
                left = ending.left;
                return ending;
            } finally {
                box.left = left;
            }
        }

        static long caught(Act act) {
            try {
                return act.answer();
            } catch (Thrown thrown) {
                return thrown.answer;
            }
        }

        long act(boolean good, Act act) {
            return good ? caught(act) : LockerWall.BAD;
        }

        static boolean hook(int i) {
            return 0 <= i && i <= 23;
        }

        static boolean thousand(int w) {
            return 1 <= w && w <= 1000;
        }

        long mount(int i, int room, int code) {
            return act(hook(i) && thousand(room),
                () -> boxes.putIfAbsent(i, new Box(room, code)) == null ? 1 : LockerWall.FULL);
        }

        long unmount(int i) {
            return act(hook(i), () -> {
                latch++;
                return hold(i, box -> {
                    if (!box.items.isEmpty()) {
                        return answer(LockerWall.EMPTY);
                    }
                    boxes.remove(i);
                    return end(box.holds);
                }).answer;
            });
        }

        long open(int i, int code) {
            return act(hook(i), () -> hold(i, box -> {
                if (box.wrong == 3) {
                    return answer(LockerWall.BLOCKED);
                }
                if (code != box.code) {
                    box.wrong++;
                    throw new Thrown(LockerWall.WRONG);
                }
                box.open = true;
                box.wrong = 0;
                return end(1);
            }).answer);
        }

        long ifOpen(int i, Within body) {
            return hold(i, box -> box.open ? body.with(box) : answer(LockerWall.SHUT)).answer;
        }

        long shut(int i) {
            return act(hook(i), () -> ifOpen(i, box -> {
                box.open = false;
                return end(1);
            }));
        }

        long put(int i, int w) {
            return act(hook(i) && thousand(w), () -> ifOpen(i, box -> {
                box.putOrThrow(w);
                return end(box.items.size());
            }));
        }

        long take(int i) {
            return act(hook(i), () -> ifOpen(i, box -> end(box.takeOrThrow())));
        }

        long move(int i, int j) {
            return act(hook(i) && hook(j), () -> hold(i, a -> hold(j, b -> {
                if (!a.open || !b.open) {
                    return answer(LockerWall.SHUT);
                }
                int w = a.takeOrThrow();
                boolean came = false;
                try {
                    b.putOrThrow(w);
                    came = true;
                } finally {
                    if (!came) {
                        a.items.add(w);
                    }
                }
                return end(w);
            })).answer);
        }

        long swap(int i, int j) {
            return act(hook(i) && hook(j), () -> hold(i, a -> hold(j, b -> {
                if (!a.open || !b.open) {
                    return answer(LockerWall.SHUT);
                }
                if (a.weight() > b.room || b.weight() > a.room) {
                    throw new Thrown(LockerWall.FULL);
                }
                List<Integer> kept = a.items;
                a.items = b.items;
                b.items = kept;
                return end(a.items.size() + b.items.size());
            })).answer);
        }

        long find(int w) {
            return act(thousand(w), () -> {
                for (int i : boxes.keySet()) {
                    Ending ending = hold(i, box -> {
                        if (!box.open) {
                            return leave(LockerWall.NONE);
                        }
                        return box.items.contains(w) ? leave(i) : end(LockerWall.NONE);
                    });
                    if (ending.answer != LockerWall.NONE) {
                        return ending.answer;
                    }
                }
                return LockerWall.NONE;
            });
        }

        Ending weighWithin(int i, int n, int sum) {
            if (n == 0) {
                return answer(sum);
            }
            return hold(i, box -> weighWithin(i == 23 ? 0 : i + 1, n - 1, sum + box.weight()));
        }

        long weigh(int i, int n) {
            return act(hook(i) && 0 <= n && n <= 12, () -> {
                latch++;
                return weighWithin(i, n, 0).answer;
            });
        }

        long drop(int i, int n, int m) {
            return act(hook(i) && 1 <= n && n <= 10, () -> ifOpen(i, box -> {
                long gone = 0;
                int left = n;
                while (left > 0 && !box.items.isEmpty()) {
                    gone += box.takeOrThrow();
                    left = gone >= m ? 0 : left - 1;
                }
                return end(gone);
            }));
        }

        long tally() {
            latch++;
            long sum = 0;
            for (int i : boxes.keySet()) {
                sum += hold(i, box -> end(box.weight() * (i + 1L))).answer;
            }
            return sum;
        }

        long first(int w) {
            return act(w >= 0, () -> {
                for (int i : boxes.keySet()) {
                    if (hold(i, box -> box.weight() >= w ? answer(1) : end(0)).answer == 1) {
                        return i;
                    }
                }
                return LockerWall.NONE;
            });
        }

        long recode(int i, int code) {
            return act(hook(i), () -> hold(i, a -> hold(i, b -> hold(i, c -> {
                if (!c.open) {
                    throw new Thrown(LockerWall.WRONG);
                }
                c.code = code;
                return answer(1);
            }))).answer);
        }

        long told(int i, int what) {
            return act(hook(i) && 0 <= what && what <= 8, () -> {
                Box box = boxes.get(i);
                if (box == null) {
                    return what == 0 ? 0 : LockerWall.BARE;
                }
                return new int[] {1, box.room, box.code, box.open ? 1 : 0, box.wrong,
                    box.items.size(), box.weight(), box.holds, box.left}[what];
            });
        }

        long item(int i, int k) {
            return act(hook(i), () -> {
                Box box = boxes.get(i);
                if (box == null) {
                    return LockerWall.BARE;
                }
                return 0 <= k && k < box.items.size() ? box.items.get(k) : LockerWall.NONE;
            });
        }
    }

    private static int wrong = 0;

    private final Random random;
    private final int span;
    private final int heaviest;
    private final LockerWall wall = new LockerWall();
    private final Model model = new Model();
    private final List<String> story = new ArrayList<>();
    private boolean failed = false;

    private ModelTest(int seed) {
        random = new Random(seed);
        // Few hooks make crowded walls, many make bare ones; light items fill by number, heavy ones by weight.
        span = 1 + random.nextInt(24);
        heaviest = new int[] {3, 40, 300, 1000}[random.nextInt(4)];
    }

    public static void main(String[] args) {
        for (int seed = 0; seed < RUNS && wrong < 10; seed++) {
            new ModelTest(seed).run();
        }
        System.out.println(wrong == 0 ? "ModelTest: all as due" : "ModelTest: " + wrong + " runs not as due");
        if (wrong != 0) {
            System.exit(1);
        }
    }

    private void run() {
        for (int k = 0; k < CALLS && !failed; k++) {
            step();
        }
        for (int i = 0; i < 24 && !failed; i++) {
            for (int what = 0; what <= 8; what++) {
                due("told(" + i + ", " + what + ")", wall.told(i, what), model.told(i, what));
            }
        }
        for (int k = 0; k < 40 && !failed; k++) {
            askItem(hook(), random.nextInt(11));
        }
        due("latch()", wall.latch(), model.latch);
    }

    private void due(String call, long got, long want) {
        story.add(call + " = " + got);
        if (got != want && !failed) {
            failed = true;
            wrong++;
            story.subList(Math.max(0, story.size() - 40), story.size()).forEach(System.out::println);
            System.out.println("    due is " + want);
        }
    }

    private int odd(int usual) {
        int[] odd = {-1, 0, 24, 1001, 13, 11, 9, Integer.MIN_VALUE, Integer.MAX_VALUE};
        return random.nextInt(40) == 0 ? odd[random.nextInt(odd.length)] : usual;
    }

    private int hook() {
        int i = random.nextInt(span);
        return odd(random.nextBoolean() ? i : 23 - i);
    }

    private int weight() {
        return odd(1 + random.nextInt(heaviest));
    }

    // Two codes alone, so that both right and wrong ones come often.
    private int code() {
        return random.nextInt(5) == 0 ? -7 : 5;
    }

    private void askItem(int i, int k) {
        due("item(" + i + ", " + k + ")", wall.item(i, k), model.item(i, k));
    }

    private void step() {
        int kind = random.nextInt(26);
        if (kind < 13) {
            stepOnOne(kind, hook(), weight(), code());
        } else {
            stepOnMore(kind, hook(), hook(), weight());
        }
    }

    private void stepOnOne(int kind, int i, int w, int code) {
        String at = "(" + i + ", ";
        switch (kind) {
            case 0, 1, 2 -> {
                int room = odd(1 + random.nextInt(1000));
                due("mount" + at + room + ", " + code + ")", wall.mount(i, room, code), model.mount(i, room, code));
            }
            case 3 -> due("unmount" + at + ")", wall.unmount(i), model.unmount(i));
            case 4, 5, 6 -> due("open" + at + code + ")", wall.open(i, code), model.open(i, code));
            case 7 -> due("shut" + at + ")", wall.shut(i), model.shut(i));
            case 8, 9, 10, 11 -> due("put" + at + w + ")", wall.put(i, w), model.put(i, w));
            default -> due("take" + at + ")", wall.take(i), model.take(i));
        }
    }

    private void stepOnMore(int kind, int i, int other, int w) {
        int j = random.nextInt(6) == 0 ? i : other;
        int n = odd(random.nextInt(13));
        String two = "(" + i + ", " + j + ")";
        switch (kind) {
            case 13, 14, 15 -> due("move" + two, wall.move(i, j), model.move(i, j));
            case 16, 17 -> due("swap" + two, wall.swap(i, j), model.swap(i, j));
            case 18 -> due("find(" + w + ")", wall.find(w), model.find(w));
            case 19 -> due("weigh(" + i + ", " + n + ")", wall.weigh(i, n), model.weigh(i, n));
            case 20 -> {
                int m = odd(random.nextInt(3 * heaviest));
                due("drop(" + i + ", " + n + ", " + m + ")", wall.drop(i, n, m), model.drop(i, n, m));
            }
            case 21 -> due("tally()", wall.tally(), model.tally());
            case 22 -> {
                int least = odd(random.nextInt(4 * heaviest));
                due("first(" + least + ")", wall.first(least), model.first(least));
            }
            case 23 -> {
                int code = code();
                due("recode(" + i + ", " + code + ")", wall.recode(i, code), model.recode(i, code));
            }
            case 24 -> due("told(" + i + ", " + n + ")", wall.told(i, n), model.told(i, n));
            default -> askItem(i, n);
        }
    }
}
