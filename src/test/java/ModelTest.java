/** Long runs of mixed calls, each answer held against a model that knows objects but no places. */
public final class ModelTest {
    private static final int RUNS = 3000;
    // More calls on one object than these are not promised anything.
    private static final int CALLS = 512;
    private static final int[] PER_PAGE = {8, 4, 2, 1};
    private static int wrong = 0;

    private final int pages;
    private final int[][] objects = new int[64][];
    private long seed;

    private ModelTest(int asked, long seed) {
        this.pages = Math.max(2, Math.min(12, asked));
        this.seed = seed;
    }

    // The same numbers in every run of the test, so that a failure can be seen again.
    private int pick(int bound) {
        seed = seed * 6364136223846793005L + 1442695040888963407L;
        return (int) ((seed >>> 33) % bound);
    }

    private static int classOf(int size) {
        return size <= 2 ? 0 : size <= 4 ? 1 : size <= 8 ? 2 : 3;
    }

    private boolean good(int handle) {
        return handle >= 0 && handle < 64 && objects[handle] != null;
    }

    private int live() {
        int n = 0;
        for (int[] object : objects) {
            n += object == null ? 0 : 1;
        }
        return n;
    }

    private int liveIn(int kind) {
        int n = 0;
        for (int[] object : objects) {
            n += object != null && classOf(object.length) == kind ? 1 : 0;
        }
        return n;
    }

    private int needed() {
        int n = 0;
        for (int kind = 0; kind < 4; kind++) {
            n += (liveIn(kind) + PER_PAGE[kind] - 1) / PER_PAGE[kind];
        }
        return n;
    }

    private int place(int[] object) {
        if (live() == 64) {
            return -2;
        }
        int handle = 0;
        while (objects[handle] != null) {
            handle++;
        }
        objects[handle] = object;
        if (needed() > pages) {
            objects[handle] = null;
            return -3;
        }
        return handle;
    }

    private int allocate(int size) {
        return size < 1 || size > 16 ? -1 : place(new int[size]);
    }

    private int free(int handle) {
        if (!good(handle)) {
            return -1;
        }
        int size = objects[handle].length;
        objects[handle] = null;
        return size;
    }

    private int resize(int handle, int size) {
        if (!good(handle)) {
            return -1;
        }
        if (size < 1 || size > 16) {
            return -2;
        }
        int[] before = objects[handle];
        objects[handle] = java.util.Arrays.copyOf(before, size);
        if (needed() > pages) {
            objects[handle] = before;
            return -3;
        }
        return before.length;
    }

    private int freeClass(int kind) {
        if (kind < 0 || kind > 3) {
            return -1;
        }
        int n = liveIn(kind);
        for (int handle = 0; handle < 64; handle++) {
            if (good(handle) && classOf(objects[handle].length) == kind) {
                objects[handle] = null;
            }
        }
        return n;
    }

    private int write(int handle, int word, int value) {
        if (!good(handle)) {
            return -1;
        }
        if (word < 0 || word >= objects[handle].length) {
            return -2;
        }
        objects[handle][word] = value;
        return 0;
    }

    private int fill(int handle, int value, int step) {
        if (!good(handle)) {
            return -1;
        }
        int[] object = objects[handle];
        for (int k = 0; k < object.length; k++) {
            object[k] = value + k * step;
        }
        return object.length;
    }

    private int exchange(int a, int b) {
        if (!good(a) || !good(b)) {
            return -1;
        }
        int[] held = objects[a];
        objects[a] = objects[b];
        objects[b] = held;
        return 0;
    }

    /** Counts one by one, as the document's words do, instead of reckoning. */
    private int roomFor(int kind) {
        if (kind < 0 || kind > 3) {
            return -1;
        }
        int others = needed() - (liveIn(kind) + PER_PAGE[kind] - 1) / PER_PAGE[kind];
        int more = 0;
        while (others + (liveIn(kind) + more + 1 + PER_PAGE[kind] - 1) / PER_PAGE[kind] <= pages) {
            more++;
        }
        return more;
    }

    private int next(int from) {
        for (int handle = 0; handle < 64; handle++) {
            if (handle >= from && good(handle)) {
                return handle;
            }
        }
        return -1;
    }

    private int count(int value) {
        int n = 0;
        for (int[] object : objects) {
            for (int k = 0; object != null && k < object.length; k++) {
                n += object[k] == value ? 1 : 0;
            }
        }
        return n;
    }

    private static void due(String where, String call, int got, int want) {
        if (got != want) {
            wrong++;
            if (wrong <= 50) {
                System.out.println(where + call + " answered " + got + ", due is " + want);
            }
        }
    }

    private int someHandle() {
        int alive = live();
        if (alive == 0 || pick(12) == 0) {
            return pick(70) - 3;
        }
        int skip = pick(alive);
        int handle = next(0);
        for (int i = 0; i < skip; i++) {
            handle = next(handle + 1);
        }
        return handle;
    }

    /** Small sizes come more often in some runs, so that many objects live together there. */
    private int someSize(int leaning) {
        int top = new int[] {2, 4, 8, 16}[Math.min(3, pick(4 + leaning) * 4 / (4 + leaning))];
        if (leaning > 0 && pick(leaning + 1) > 0) {
            top = 2;
        }
        return pick(40) == 0 ? pick(40) - 10 : 1 + pick(top);
    }

    private void change(CompactFit x, String where, int leaning) {
        int handle = someHandle();
        int other = someHandle();
        int size = someSize(leaning);
        int value = pick(3) == 0 ? pick(4) : (int) (seed >>> 20);
        int dice = pick(100);
        if (dice < 40) {
            due(where, "allocate(" + size + ")", x.allocate(size), allocate(size));
        } else if (dice < 52) {
            due(where, "free(" + handle + ")", x.free(handle), free(handle));
        } else if (dice < 66) {
            due(where, "resize(" + handle + ", " + size + ")", x.resize(handle, size), resize(handle, size));
        } else if (dice < 76) {
            int want = good(handle) ? place(objects[handle].clone()) : -1;
            due(where, "copy(" + handle + ")", x.copy(handle), want);
        } else if (dice < 77) {
            int kind = pick(6) - 1;
            due(where, "freeClass(" + kind + ")", x.freeClass(kind), freeClass(kind));
        } else if (dice < 83) {
            int word = pick(18) - 1;
            due(where, "write(" + handle + ", " + word + ", " + value + ")", x.write(handle, word, value),
                write(handle, word, value));
        } else if (dice < 93) {
            int step = pick(2) == 0 ? pick(5) - 2 : (int) (seed >>> 9);
            due(where, "fill(" + handle + ", " + value + ", " + step + ")", x.fill(handle, value, step),
                fill(handle, value, step));
        } else {
            due(where, "exchange(" + handle + ", " + other + ")", x.exchange(handle, other), exchange(handle, other));
        }
    }

    private void askOfStore(CompactFit x, String where) {
        int kind = pick(6) - 1;
        int value = pick(4);
        int from = pick(70) - 3;
        switch (pick(8)) {
            case 0 -> due(where, "pages()", x.pages(), pages);
            case 1 -> due(where, "live()", x.live(), live());
            case 2 -> due(where, "needed()", x.needed(), needed());
            case 3 -> due(where, "faults()", x.faults(), 0);
            case 4 -> due(where, "liveIn(" + kind + ")", x.liveIn(kind), kind < 0 || kind > 3 ? -1 : liveIn(kind));
            case 5 -> due(where, "roomFor(" + kind + ")", x.roomFor(kind), roomFor(kind));
            case 6 -> due(where, "count(" + value + ")", x.count(value), count(value));
            default -> due(where, "next(" + from + ")", x.next(from), next(from));
        }
    }

    private void askOfObject(CompactFit x, String where) {
        int handle = someHandle();
        int word = pick(18) - 1;
        int[] object = good(handle) ? objects[handle] : new int[0];
        int held = word >= 0 && word < object.length ? object[word] : 0;
        switch (pick(3)) {
            case 0 -> due(where, "size(" + handle + ")", x.size(handle), object.length);
            case 1 -> due(where, "sum(" + handle + ")", x.sum(handle), java.util.stream.IntStream.of(object).sum());
            default -> due(where, "read(" + handle + ", " + word + ")", x.read(handle, word), held);
        }
    }

    public static void main(String[] args) {
        int most = 0;
        for (int run = 0; run < RUNS; run++) {
            int asked = run % 15;
            ModelTest model = new ModelTest(asked, run);
            CompactFit x = new CompactFit(asked);
            for (int call = 0; call < CALLS; call++) {
                String where = "run " + run + ", call " + call + ": ";
                switch (call % 4) {
                    case 2 -> model.askOfStore(x, where);
                    case 3 -> model.askOfObject(x, where);
                    default -> model.change(x, where, run / 15 % 8);
                }
                most = Math.max(most, model.live());
            }
        }
        // Without this the runs might never come near the limit of objects.
        due("", "the most objects that lived in a run", most, 64);
        System.out.println(wrong == 0 ? "all runs agree with the model" : wrong + " answers are not as due");
        if (wrong != 0) {
            System.exit(1);
        }
    }
}
