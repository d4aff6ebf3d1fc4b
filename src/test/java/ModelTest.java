import java.util.Arrays;

/** Long runs of mixed calls, each answer held against a model that knows objects but no places. */
public final class ModelTest {
    private static final int RUNS = 3000;
    // More calls on one object than these are not promised anything.
    private static final int CALLS = 512;
    private static final int[] STRANGE = {
        Integer.MIN_VALUE, Integer.MIN_VALUE + 1, Integer.MIN_VALUE + 63, -65536, -192, -64, -16, -1,
        64, 191, 192, 256, 65536, 1 << 30, Integer.MAX_VALUE - 191, Integer.MAX_VALUE - 15, Integer.MAX_VALUE
    };
    private static final int SHOWN = 50;
    private static int wrong = 0;

    private final CompactFit x;
    private final Model model;
    private final int run;
    private int number = 0;
    private long seed;

    private ModelTest(int asked, int run) {
        this.x = new CompactFit(asked);
        this.model = new Model(asked);
        this.run = run;
        this.seed = run;
    }

    // The same numbers in every run of the test, so that a failure can be seen again.
    private int pick(int bound) {
        seed = seed * 6364136223846793005L + 1442695040888963407L;
        return (int) ((seed >>> 33) % bound);
    }

    /** Below the bound, or one below or above, or, now and then, far from it. */
    private int about(int bound) {
        return pick(12) == 0 ? STRANGE[pick(STRANGE.length)] : pick(bound + 2) - 1;
    }

    private void due(int got, int want, String name, int... arguments) {
        if (got != want) {
            wrong++;
            if (wrong <= SHOWN) {
                System.out.println("run " + run + ", call " + number + ": " + name + Arrays.toString(arguments)
                    + " answered " + got + ", due is " + want);
            }
        }
    }

    private int someHandle() {
        int alive = model.live();
        if (alive == 0 || pick(12) == 0) {
            return about(64);
        }
        int skip = pick(alive);
        int handle = model.next(0);
        for (int i = 0; i < skip; i++) {
            handle = model.next(handle + 1);
        }
        return handle;
    }

    /** Small sizes come more often in some runs, so that many objects live together there. */
    private int someSize(int leaning) {
        int top = new int[] {2, 4, 8, 16}[Math.min(3, pick(4 + leaning) * 4 / (4 + leaning))];
        if (leaning > 0 && pick(leaning + 1) > 0) {
            top = 2;
        }
        return pick(25) == 0 ? about(17) : 1 + pick(top);
    }

    private void change(int leaning) {
        int handle = someHandle();
        int other = someHandle();
        int size = someSize(leaning);
        int kind = about(4);
        int word = about(16);
        int value = pick(3) == 0 ? pick(4) : (int) (seed >>> 20);
        int step = pick(2) == 0 ? pick(5) - 2 : (int) (seed >>> 9);
        int dice = pick(100);
        if (dice < 40) {
            due(x.allocate(size), model.allocate(size), "allocate", size);
        } else if (dice < 52) {
            due(x.free(handle), model.free(handle), "free", handle);
        } else if (dice < 66) {
            due(x.resize(handle, size), model.resize(handle, size), "resize", handle, size);
        } else if (dice < 76) {
            due(x.copy(handle), model.copy(handle), "copy", handle);
        } else if (dice < 77) {
            due(x.freeClass(kind), model.freeClass(kind), "freeClass", kind);
        } else if (dice < 83) {
            due(x.write(handle, word, value), model.write(handle, word, value), "write", handle, word, value);
        } else if (dice < 93) {
            due(x.fill(handle, value, step), model.fill(handle, value, step), "fill", handle, value, step);
        } else {
            due(x.exchange(handle, other), model.exchange(handle, other), "exchange", handle, other);
        }
    }

    private void askOfStore() {
        int kind = about(4);
        int value = pick(4);
        int from = about(64);
        switch (pick(8)) {
            case 0 -> due(x.pages(), model.pages(), "pages");
            case 1 -> due(x.live(), model.live(), "live");
            case 2 -> due(x.needed(), model.needed(), "needed");
            case 3 -> due(x.faults(), 0, "faults");
            case 4 -> due(x.liveIn(kind), model.liveIn(kind), "liveIn", kind);
            case 5 -> due(x.roomFor(kind), model.roomFor(kind), "roomFor", kind);
            case 6 -> due(x.count(value), model.count(value), "count", value);
            default -> due(x.next(from), model.next(from), "next", from);
        }
    }

    private void askOfObject() {
        int handle = someHandle();
        int word = about(16);
        switch (pick(3)) {
            case 0 -> due(x.size(handle), model.size(handle), "size", handle);
            case 1 -> due(x.sum(handle), model.sum(handle), "sum", handle);
            default -> due(x.read(handle, word), model.read(handle, word), "read", handle, word);
        }
    }

    private void call(int leaning) {
        switch (number % 4) {
            case 2 -> askOfStore();
            case 3 -> askOfObject();
            default -> change(leaning);
        }
        number++;
    }

    public static void main(String[] args) {
        int most = 0;
        for (int run = 0; run < RUNS; run++) {
            ModelTest test = new ModelTest(run % 15, run);
            for (int i = 0; i < CALLS; i++) {
                test.call(run / 15 % 8);
                most = Math.max(most, test.model.live());
            }
        }
        if (most != Model.HANDLES) {
            wrong++;
            System.out.println("no run comes to the limit of objects, the most were " + most);
        }
        System.out.println(wrong == 0 ? "all runs agree with the model" : wrong + " answers are not as due");
        if (wrong != 0) {
            System.exit(1);
        }
    }
}
