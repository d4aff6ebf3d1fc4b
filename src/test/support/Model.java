import java.util.Arrays;
import java.util.stream.IntStream;

/** What the document says, over objects that know their words but no places. */
final class Model {
    static final int HANDLES = 64;
    private static final int[] PER_PAGE = {8, 4, 2, 1};
    private static final int[] NO_WORDS = {};

    private final int pages;
    private final int[][] objects = new int[HANDLES][];

    Model(int asked) {
        pages = Math.max(2, Math.min(12, asked));
    }

    Model twin() {
        Model other = new Model(pages);
        for (int handle = 0; handle < HANDLES; handle++) {
            other.objects[handle] = objects[handle] == null ? null : objects[handle].clone();
        }
        return other;
    }

    private static int kindOf(int size) {
        return size <= 2 ? 0 : size <= 4 ? 1 : size <= 8 ? 2 : 3;
    }

    private static boolean isSize(int size) {
        return size >= 1 && size <= 16;
    }

    private static boolean isKind(int kind) {
        return kind >= 0 && kind <= 3;
    }

    boolean good(int handle) {
        return handle >= 0 && handle < HANDLES && objects[handle] != null;
    }

    /** None if the handle is not good. */
    private int[] wordsOf(int handle) {
        return good(handle) ? objects[handle] : NO_WORDS;
    }

    private boolean isWord(int handle, int word) {
        return word >= 0 && word < wordsOf(handle).length;
    }

    private int pagesFor(int howMany, int kind) {
        return (howMany + PER_PAGE[kind] - 1) / PER_PAGE[kind];
    }

    private int place(int[] object) {
        if (live() == HANDLES) {
            return -2;
        }
        int handle = 0;
        while (objects[handle] != null) {
            handle++;
        }
        objects[handle] = object;
        if (needed() > pages) {
            objects[handle] = null;
            return -3;
        }
        return handle;
    }

    int pages() {
        return pages;
    }

    int allocate(int size) {
        return isSize(size) ? place(new int[size]) : -1;
    }

    int free(int handle) {
        if (!good(handle)) {
            return -1;
        }
        int size = objects[handle].length;
        objects[handle] = null;
        return size;
    }

    int resize(int handle, int size) {
        if (!good(handle)) {
            return -1;
        }
        if (!isSize(size)) {
            return -2;
        }
        int[] before = objects[handle];
        objects[handle] = Arrays.copyOf(before, size);
        if (needed() > pages) {
            objects[handle] = before;
            return -3;
        }
        return before.length;
    }

    int copy(int handle) {
        return good(handle) ? place(objects[handle].clone()) : -1;
    }

    int freeClass(int kind) {
        int freed = liveIn(kind);
        for (int handle = 0; handle < HANDLES; handle++) {
            if (good(handle) && kindOf(objects[handle].length) == kind) {
                objects[handle] = null;
            }
        }
        return freed;
    }

    int read(int handle, int word) {
        return isWord(handle, word) ? objects[handle][word] : 0;
    }

    int write(int handle, int word, int value) {
        if (!good(handle)) {
            return -1;
        }
        if (!isWord(handle, word)) {
            return -2;
        }
        objects[handle][word] = value;
        return 0;
    }

    int fill(int handle, int value, int step) {
        if (!good(handle)) {
            return -1;
        }
        int[] object = objects[handle];
        for (int k = 0; k < object.length; k++) {
            object[k] = value + k * step;
        }
        return object.length;
    }

    int exchange(int a, int b) {
        if (!good(a) || !good(b)) {
            return -1;
        }
        int[] held = objects[a];
        objects[a] = objects[b];
        objects[b] = held;
        return 0;
    }

    int size(int handle) {
        return wordsOf(handle).length;
    }

    int live() {
        int n = 0;
        for (int[] object : objects) {
            n += object == null ? 0 : 1;
        }
        return n;
    }

    int liveIn(int kind) {
        if (!isKind(kind)) {
            return -1;
        }
        int n = 0;
        for (int[] object : objects) {
            n += object != null && kindOf(object.length) == kind ? 1 : 0;
        }
        return n;
    }

    int needed() {
        int n = 0;
        for (int kind = 0; kind < 4; kind++) {
            n += pagesFor(liveIn(kind), kind);
        }
        return n;
    }

    /** Counts one by one, as the document's words do, instead of reckoning. */
    int roomFor(int kind) {
        if (!isKind(kind)) {
            return -1;
        }
        int now = liveIn(kind);
        int others = needed() - pagesFor(now, kind);
        int more = 0;
        while (others + pagesFor(now + more + 1, kind) <= pages) {
            more++;
        }
        return more;
    }

    int sum(int handle) {
        return IntStream.of(wordsOf(handle)).sum();
    }

    int next(int from) {
        for (int handle = 0; handle < HANDLES; handle++) {
            if (handle >= from && good(handle)) {
                return handle;
            }
        }
        return -1;
    }

    int count(int value) {
        int n = 0;
        for (int handle = 0; handle < HANDLES; handle++) {
            for (int held : wordsOf(handle)) {
                n += held == value ? 1 : 0;
            }
        }
        return n;
    }
}
