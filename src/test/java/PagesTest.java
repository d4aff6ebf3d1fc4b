import java.lang.reflect.Field;
import java.util.Arrays;

/** That faults() answers 0 is true of the pages themselves: here they are seen through the private fields. */
public final class PagesTest {
    private static final int RUNS = 300;
    private static final int CALLS = 512;
    private static final int NONE = -1;

    private final CompactFit x;
    private final int[] holder;
    private final int[] sizeOf;
    private final int[] placeOf;
    private final int[] pageKind;
    private long seed;

    private PagesTest(int pages, long seed) {
        this.x = new CompactFit(pages);
        this.holder = inside("holder");
        this.sizeOf = inside("sizeOf");
        this.placeOf = inside("placeOf");
        this.pageKind = inside("pageKind");
        this.seed = seed;
    }

    private int[] inside(String name) {
        try {
            Field field = CompactFit.class.getDeclaredField(name);
            field.setAccessible(true);
            return (int[]) field.get(x);
        } catch (ReflectiveOperationException e) {
            throw new IllegalStateException(e);
        }
    }

    private int pick(int bound) {
        seed = seed * 6364136223846793005L + 1442695040888963407L;
        return (int) ((seed >>> 33) % bound);
    }

    private void change() {
        int handle = pick(10) == 0 ? pick(64) : x.next(pick(64));
        int size = 1 + pick(new int[] {2, 4, 8, 16}[pick(4)]);
        switch (pick(8)) {
            case 0, 1, 2 -> x.allocate(size);
            case 3 -> x.free(handle);
            case 4 -> x.resize(handle, size);
            case 5 -> x.copy(handle);
            case 6 -> x.exchange(handle, pick(64));
            default -> x.freeClass(pick(60));
        }
    }

    private int heldOn(int page) {
        int held = 0;
        for (int at = 16 * page; at < 16 * page + 16; at++) {
            held += holder[at] == NONE ? 0 : 1;
        }
        return held;
    }

    private void dueNoPageInUseIsEmpty() {
        for (int page = 0; page < 12; page++) {
            Sentence.due("page " + page + " in use", pageKind[page] == NONE ? 0 : 1, heldOn(page) == 0 ? 0 : 1);
        }
    }

    private void dueOneClassOnAPage() {
        for (int at = 0; at < 192; at++) {
            if (holder[at] != NONE) {
                Sentence.due("the class at word " + at, Store.kindOf(sizeOf[holder[at]]), pageKind[at / 16]);
            }
        }
    }

    private void dueOnePageOfAClassIsNotFull() {
        int[] notFull = new int[4];
        for (int page = 0; page < 12; page++) {
            if (pageKind[page] != NONE && heldOn(page) < Store.PER_PAGE[pageKind[page]]) {
                notFull[pageKind[page]]++;
            }
        }
        for (int kind = 0; kind < 4; kind++) {
            Sentence.due("at most one page of class " + kind + " is not full", notFull[kind] <= 1 ? 1 : 0, 1);
        }
    }

    private void dueNoMorePagesInUseThanNeeded(int pages) {
        int used = 0;
        int[] inKind = new int[4];
        for (int page = 0; page < 12; page++) {
            used += pageKind[page] == NONE ? 0 : 1;
        }
        for (int size : sizeOf) {
            if (size > 0) {
                inKind[Store.kindOf(size)]++;
            }
        }
        Sentence.due("pages in use", used, Store.neededFor(inKind));
        Sentence.due("pages in use are at most P", used <= pages ? 1 : 0, 1);
    }

    private void dueEachObjectOnWordsOfItsOwn() {
        int[] owner = new int[192];
        Arrays.fill(owner, NONE);
        int live = 0;
        for (int handle = 0; handle < 64; handle++) {
            int size = sizeOf[handle];
            int place = placeOf[handle];
            for (int at = place; at < place + size; at++) {
                Sentence.due("the owner of word " + at, owner[at], NONE);
                Sentence.due("the page of word " + at, at / 16, place / 16);
                owner[at] = handle;
            }
            if (size > 0) {
                live++;
                Sentence.due("the holder at " + place, holder[place], handle);
            }
        }
        Sentence.due("holders", Arrays.stream(holder).filter(handle -> handle != NONE).count(), live);
    }

    private static void afterEachCall(java.util.function.ObjIntConsumer<PagesTest> look) {
        for (int run = 0; run < RUNS; run++) {
            int pages = 2 + run % 11;
            PagesTest store = new PagesTest(pages, run);
            // change() may ask for a handle first, so that each step takes up to two calls.
            for (int step = 0; step < CALLS / 2; step++) {
                store.change();
                look.accept(store, pages);
            }
        }
    }

    /** A page that no object is on is broken into a store whose pages are in order. */
    private static void countsPagesWithoutObjects() {
        PagesTest store = new PagesTest(5, 0);
        store.x.allocate(1);
        store.x.allocate(16);
        Sentence.due("faults()", store.x.faults(), 0);
        store.pageKind[2] = 3;
        Sentence.due("faults()", store.x.faults(), 1);
        store.pageKind[4] = 1;
        Sentence.due("faults()", store.x.faults(), 2);
    }

    private static void countsPagesOfTwoClasses() {
        PagesTest store = new PagesTest(3, 0);
        store.x.allocate(1);
        store.x.allocate(3);
        store.x.allocate(5);
        Sentence.due("faults()", store.x.faults(), 0);
        store.move(1, store.placeOf[0] / 16 * 16 + 4);
        Sentence.due("faults()", store.x.faults(), 1);
    }

    private static void countsSecondPagesThatAreNotFull() {
        PagesTest store = new PagesTest(3, 0);
        for (int i = 0; i < 12; i++) {
            store.x.allocate(2);
        }
        Sentence.due("faults()", store.x.faults(), 0);
        int onTheOther = store.placeOf[11] / 16 * 16 + 14;
        store.move(0, onTheOther);
        Sentence.due("faults()", store.x.faults(), 1);
    }

    private void move(int handle, int place) {
        int page = placeOf[handle] / 16;
        holder[placeOf[handle]] = NONE;
        holder[place] = handle;
        placeOf[handle] = place;
        if (heldOn(page) == 0) {
            pageKind[page] = NONE;
        }
    }

    public static void main(String[] args) {
        Sentence.holds("20: no page in use holds no object", () -> afterEachCall((s, p) -> s.dueNoPageInUseIsEmpty()));
        Sentence.holds("20: no page holds objects of two classes", () -> afterEachCall((s, p) -> s.dueOneClassOnAPage()));
        Sentence.holds("20: no second page of a class is not full",
            () -> afterEachCall((s, p) -> s.dueOnePageOfAClassIsNotFull()));
        Sentence.holds("Terms: at most P pages in use, as many as are needed",
            () -> afterEachCall(PagesTest::dueNoMorePagesInUseThanNeeded));
        Sentence.holds("Terms: each object has words of its own", () -> afterEachCall((s, p) -> s.dueEachObjectOnWordsOfItsOwn()));
        Sentence.holds("20: pages that are in use but hold no object", PagesTest::countsPagesWithoutObjects);
        Sentence.holds("20: pages that hold objects of two classes", PagesTest::countsPagesOfTwoClasses);
        Sentence.holds("20: the second page of a class that is not full", PagesTest::countsSecondPagesThatAreNotFull);
        Sentence.finish();
    }
}
