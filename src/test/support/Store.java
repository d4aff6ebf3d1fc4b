import java.util.Arrays;
import java.util.function.Consumer;
import java.util.function.Supplier;

/** A CompactFit whose answers are held against those that are due. */
final class Store {
    static final int LEAST = Integer.MIN_VALUE;
    static final int GREATEST = Integer.MAX_VALUE;
    // Among them those that only seem to be 0 .. 63 to a program that looks at the low bits alone.
    static final int[] NEGATIVE = {LEAST, LEAST + 1, LEAST + 64, -65536, -256, -64, -63, -2, -1};
    static final int[] FROM_64 = {64, 65, 66, 128, 256, 257, 65536, 1 << 30, GREATEST - 63, GREATEST};
    static final int[] NO_KIND = {LEAST, LEAST + 1, -256, -4, -3, -2, -1, 4, 5, 8, 32, 33, 256, GREATEST};
    static final int[] NO_SIZE = {LEAST, LEAST + 1, -256, -16, -1, 0, 17, 18, 32, 33, 257, 65537, GREATEST};
    static final int[] PER_PAGE = {8, 4, 2, 1};
    static final int[] LEAST_OF_KIND = {1, 3, 5, 9};
    static final int[] MOST_OF_KIND = {2, 4, 8, 16};
    // Nothing is promised about later calls, so a test that makes them tests nothing.
    private static final int CALLS = 512;

    private final CompactFit x;
    private int calls = 0;

    Store(int pages) {
        x = new CompactFit(pages);
    }

    /** Handles 0, 1, .. have these sizes, and their words hold marks. */
    static Store with(int pages, int... sizes) {
        Store store = new Store(pages);
        for (int handle = 0; handle < sizes.length; handle++) {
            store.due(handle, "allocate", sizes[handle]);
            store.mark(handle, sizes[handle]);
        }
        return store;
    }

    static Store withMany(int pages, int howMany, int size) {
        int[] sizes = new int[howMany];
        Arrays.fill(sizes, size);
        return with(pages, sizes);
    }

    static int kindOf(int size) {
        return new int[] {0, 0, 0, 1, 1, 2, 2, 2, 2, 3, 3, 3, 3, 3, 3, 3, 3}[size];
    }

    /** The document's reckoning: for every class divided, rounded up, summed. */
    static int neededFor(int... inKind) {
        int pages = 0;
        for (int kind = 0; kind < 4; kind++) {
            pages += inKind[kind] / PER_PAGE[kind];
            if (inKind[kind] % PER_PAGE[kind] != 0) {
                pages++;
            }
        }
        return pages;
    }

    int call(String name, int... a) {
        calls++;
        if (calls == CALLS + 1) {
            Sentence.wrong("the test makes more calls than are promised anything");
        }
        return switch (name) {
            case "pages" -> x.pages();
            case "allocate" -> x.allocate(a[0]);
            case "free" -> x.free(a[0]);
            case "resize" -> x.resize(a[0], a[1]);
            case "copy" -> x.copy(a[0]);
            case "freeClass" -> x.freeClass(a[0]);
            case "read" -> x.read(a[0], a[1]);
            case "write" -> x.write(a[0], a[1], a[2]);
            case "fill" -> x.fill(a[0], a[1], a[2]);
            case "exchange" -> x.exchange(a[0], a[1]);
            case "size" -> x.size(a[0]);
            case "live" -> x.live();
            case "liveIn" -> x.liveIn(a[0]);
            case "needed" -> x.needed();
            case "roomFor" -> x.roomFor(a[0]);
            case "sum" -> x.sum(a[0]);
            case "next" -> x.next(a[0]);
            case "count" -> x.count(a[0]);
            case "faults" -> x.faults();
            default -> throw new IllegalArgumentException(name);
        };
    }

    void due(int want, String name, int... a) {
        int got = call(name, a);
        Sentence.due(name + Arrays.toString(a), got, want);
    }

    /** Marks tell a word from every other word, and from 0. */
    static int markOf(int handle, int word) {
        return 1000 * (handle + 1) + word;
    }

    void mark(int handle, int size) {
        due(size, "fill", handle, markOf(handle, 0), 1);
    }

    void dueWords(int handle, int... words) {
        due(words.length, "size", handle);
        for (int k = 0; k < words.length; k++) {
            due(words[k], "read", handle, k);
        }
    }

    void dueMarked(int handle, int size) {
        dueWords(handle, marksOf(handle, size, size));
    }

    /** The object came to this handle with the marks of another one. */
    void dueMarkedAs(int handle, int other, int size) {
        dueWords(handle, marksOf(other, size, size));
    }

    /** The first words hold the marks of the handle, the others 0. */
    static int[] marksOf(int handle, int marked, int size) {
        int[] words = new int[size];
        for (int k = 0; k < size && k < marked; k++) {
            words[k] = markOf(handle, k);
        }
        return words;
    }

    /** All that can be seen of the store. */
    private int[] look() {
        int[] seen = new int[12 + 64 * 17];
        int n = 0;
        for (String name : new String[] {"pages", "live", "needed", "faults"}) {
            seen[n++] = call(name);
        }
        for (int kind = 0; kind < 4; kind++) {
            seen[n++] = call("liveIn", kind);
            seen[n++] = call("roomFor", kind);
        }
        for (int handle = 0; handle < 64; handle++) {
            int size = call("size", handle);
            seen[n++] = size;
            for (int word = 0; word < size; word++) {
                seen[n++] = call("read", handle, word);
            }
        }
        return seen;
    }

    /** What changes answer from here on, so that a difference that can't be seen yet comes to light. */
    private int[] goOn() {
        int[] answers = new int[256];
        int n = 0;
        for (int handle = 0; handle < 64; handle += 3) {
            answers[n++] = call("free", handle);
        }
        for (int size = 1; size <= 16; size++) {
            answers[n++] = call("allocate", size);
            answers[n++] = call("copy", size);
            answers[n++] = call("resize", size + 1, size);
        }
        for (int handle = 0; handle < 64; handle++) {
            answers[n++] = call("sum", handle);
        }
        return answers;
    }

    /** Such calls leave the store as it would be without them. */
    static void dueUnchangedBy(Supplier<Store> made, Consumer<Store> calls) {
        Store touched = made.get();
        calls.accept(touched);
        if (!Arrays.equals(touched.look(), made.get().look())) {
            Sentence.wrong("the calls changed what can be seen");
        }
        touched = made.get();
        calls.accept(touched);
        if (!Arrays.equals(touched.goOn(), made.get().goOn())) {
            Sentence.wrong("the calls changed what later calls answer");
        }
    }
}
