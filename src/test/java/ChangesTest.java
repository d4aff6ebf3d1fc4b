import java.util.function.ObjIntConsumer;

/** One test for each sentence of the promises 1 to 7, and of 9 to 11, that names a boundary case. */
public final class ChangesTest {
    private static Store fullWith64() {
        return Store.withMany(8, 64, 1);
    }

    /** 64 objects that leave 4 of 12 pages. */
    private static Store crowded() {
        return Store.withMany(12, 64, 1);
    }

    private static void eachNegative(ObjIntConsumer<Store> calls) {
        Store x = Store.with(6, 3, 16, 1, 5);
        for (int handle : Store.NEGATIVE) {
            calls.accept(x, handle);
        }
        dueWhole(x);
    }

    private static void eachFrom64(ObjIntConsumer<Store> calls) {
        Store x = Store.with(6, 3, 16, 1, 5);
        for (int handle : Store.FROM_64) {
            calls.accept(x, handle);
        }
        dueWhole(x);
        Store full = fullWith64();
        calls.accept(full, 64);
        full.due(64, "live");
    }

    private static void eachNeverGiven(ObjIntConsumer<Store> calls) {
        Store x = Store.with(6, 3, 16, 1, 5);
        for (int handle = 4; handle < 64; handle++) {
            calls.accept(x, handle);
        }
        dueWhole(x);
        Store empty = new Store(2);
        calls.accept(empty, 0);
        calls.accept(empty, 63);
        empty.due(0, "live");
    }

    private static void eachFreed(ObjIntConsumer<Store> calls) {
        Store x = Store.with(6, 3, 16, 1, 5, 7, 4, 3);
        x.due(7, "free", 4);
        x.due(4, "free", 5);
        x.due(3, "free", 6);
        for (int handle = 4; handle <= 6; handle++) {
            calls.accept(x, handle);
        }
        dueWhole(x);
        Store byClass = Store.with(6, 3, 16, 1, 5, 2, 2);
        byClass.due(3, "freeClass", 0);
        calls.accept(byClass, 2);
        calls.accept(byClass, 4);
        calls.accept(byClass, 5);
        byClass.due(3, "live");
    }

    private static void dueWhole(Store x) {
        x.due(4, "live");
        x.dueMarked(0, 3);
        x.dueMarked(1, 16);
        x.dueMarked(2, 1);
        x.dueMarked(3, 5);
    }

    private static void notGood(String sentence, ObjIntConsumer<Store> calls) {
        Sentence.holds(sentence + " (negative)", () -> eachNegative(calls));
        Sentence.holds(sentence + " (64 and above)", () -> eachFrom64(calls));
        Sentence.holds(sentence + " (never given)", () -> eachNeverGiven(calls));
        Sentence.holds(sentence + " (freed)", () -> eachFreed(calls));
    }

    // ---- Promise 1: a new object

    private static void duePages(int asked, int pages) {
        Store x = new Store(asked);
        x.due(pages, "pages");
        x.due(pages, "roomFor", 3);
        for (int handle = 0; handle < pages; handle++) {
            x.due(handle, "allocate", 16);
        }
        x.due(-3, "allocate", 16);
        x.due(pages, "pages");
    }

    private static void pagesBelow2() {
        for (int asked : new int[] {Store.LEAST, Store.LEAST + 12, -256, -12, -2, -1, 0, 1}) {
            duePages(asked, 2);
        }
    }

    private static void pagesAbove12() {
        for (int asked : new int[] {13, 14, 16, 64, 258, 65538, Store.GREATEST - 1, Store.GREATEST}) {
            duePages(asked, 12);
        }
    }

    private static void pagesFrom2To12() {
        for (int pages = 2; pages <= 12; pages++) {
            duePages(pages, pages);
        }
    }

    private static void noObjectsAtFirst() {
        for (int pages = 1; pages <= 13; pages++) {
            Store x = new Store(pages);
            x.due(0, "live");
            x.due(0, "needed");
            x.due(0, "count", 0);
            x.due(-1, "next", Store.LEAST);
            for (int kind = 0; kind < 4; kind++) {
                x.due(0, "liveIn", kind);
                x.due(0, "freeClass", kind);
            }
            for (int handle = 0; handle < 64; handle++) {
                x.due(0, "size", handle);
                x.due(-1, "free", handle);
            }
        }
    }

    // ---- Promise 3: allocate

    private static void newWordsHold0() {
        for (int size = 1; size <= 16; size++) {
            Store x = new Store(2);
            x.due(0, "allocate", size);
            x.dueWords(0, new int[size]);
        }
    }

    /** Every word of the store has held something else before. */
    private static void newWordsHold0WhereFreedOnesDid() {
        for (int kind = 0; kind < 4; kind++) {
            for (int freed = 0; freed < 4; freed++) {
                int before = 2 * Store.PER_PAGE[freed];
                Store x = Store.withMany(2, before, Store.MOST_OF_KIND[freed]);
                x.due(before, "freeClass", freed);
                int after = 2 * Store.PER_PAGE[kind];
                for (int handle = 0; handle < after; handle++) {
                    x.due(handle, "allocate", Store.MOST_OF_KIND[kind]);
                    x.dueWords(handle, new int[Store.MOST_OF_KIND[kind]]);
                }
                x.due(32, "count", 0);
            }
        }
    }

    private static void newWordsHold0WhereOneWasFreed() {
        for (int kind = 0; kind < 4; kind++) {
            int all = 2 * Store.PER_PAGE[kind];
            int size = Store.MOST_OF_KIND[kind];
            for (int freed = 0; freed < all; freed++) {
                Store x = Store.withMany(2, all, size);
                x.due(size, "free", freed);
                x.due(freed, "allocate", size);
                x.dueWords(freed, new int[size]);
                for (int handle = 0; handle < all; handle++) {
                    if (handle != freed) {
                        x.dueMarked(handle, size);
                    }
                }
            }
        }
    }

    private static void allocateNoSize() {
        Store x = new Store(2);
        for (int size : Store.NO_SIZE) {
            x.due(-1, "allocate", size);
        }
        x.due(0, "live");
        for (int size = 1; size <= 16; size++) {
            new Store(2).due(0, "allocate", size);
        }
    }

    private static void allocateAt64() {
        Store x = Store.withMany(12, 63, 1);
        x.due(63, "allocate", 16);
        for (int size = 1; size <= 16; size++) {
            x.due(-2, "allocate", size);
        }
        x.due(1, "free", 30);
        x.due(30, "allocate", 1);
        x.due(-2, "allocate", 1);
    }

    private static void allocateBeyondThePages() {
        for (int pages = 2; pages <= 12; pages++) {
            for (int kind = 0; kind < 4; kind++) {
                int fit = Math.min(63, pages * Store.PER_PAGE[kind]);
                Store x = Store.withMany(pages, fit, Store.MOST_OF_KIND[kind]);
                if (fit == pages * Store.PER_PAGE[kind]) {
                    for (int size = 1; size <= 16; size++) {
                        x.due(-3, "allocate", size);
                    }
                    x.due(Store.MOST_OF_KIND[kind], "free", fit - 1);
                    x.due(fit - 1, "allocate", Store.LEAST_OF_KIND[kind]);
                }
            }
        }
    }

    /** A class whose last page has room takes objects when no page is left. */
    private static void allocateOnTheLastPage() {
        for (int kind = 0; kind < 3; kind++) {
            for (int other = 0; other < 4; other++) {
                if (other != kind) {
                    Store x = Store.with(2, Store.LEAST_OF_KIND[kind], Store.LEAST_OF_KIND[other]);
                    for (int i = 1; i < Store.PER_PAGE[kind]; i++) {
                        x.due(i + 1, "allocate", Store.MOST_OF_KIND[kind]);
                    }
                    x.due(-3, "allocate", Store.LEAST_OF_KIND[kind]);
                }
            }
        }
    }

    // ---- Promise 4: free

    private static void freeAnswersTheSize() {
        for (int size = 1; size <= 16; size++) {
            Store x = Store.with(2, size);
            x.due(size, "free", 0);
            x.due(0, "live");
            x.due(0, "needed");
            x.due(-1, "free", 0);
        }
    }

    private static void freeAfterOtherChanges() {
        Store x = Store.with(4, 3, 16);
        x.due(3, "resize", 0, 7);
        x.due(2, "copy", 0);
        x.due(0, "exchange", 0, 1);
        x.due(16, "free", 0);
        x.due(7, "free", 1);
        x.due(7, "free", 2);
        x.due(0, "needed");
    }

    private static void freeTheLastAndTheFirstOf64() {
        Store x = fullWith64();
        x.due(1, "free", 63);
        x.due(1, "free", 0);
        x.due(62, "live");
        for (int handle = 1; handle < 63; handle++) {
            x.due(Store.markOf(handle, 0), "read", handle, 0);
        }
    }

    // ---- Promise 5: resize

    /** The other page is taken, so that another class has no page but the one that is left. */
    private static void resizeInAFullStore(int before, int after) {
        Store x = Store.with(2, before, 16);
        x.due(2, "needed");
        x.due(before, "resize", 0, after);
        x.dueWords(0, Store.marksOf(0, before, after));
        x.dueMarked(1, 16);
        x.due(2, "live");
        x.due(2, "needed");
        x.due(after, "free", 0);
    }

    private static void resizeToSmaller() {
        for (int before = 1; before <= 16; before++) {
            for (int after = 1; after < before; after++) {
                resizeInAFullStore(before, after);
            }
        }
    }

    private static void resizeToLarger() {
        for (int before = 1; before <= 16; before++) {
            for (int after = before + 1; after <= 16; after++) {
                resizeInAFullStore(before, after);
            }
        }
    }

    private static void resizeToTheSame() {
        for (int size = 1; size <= 16; size++) {
            int same = size;
            resizeInAFullStore(size, size);
            Store.dueUnchangedBy(() -> Store.with(4, same, 1, 3, 5), x -> x.due(same, "resize", 0, same));
        }
    }

    /** The page that the object leaves is the only one that its new class can have. */
    private static void resizeWhenAllPagesAreNeeded() {
        for (int pages = 2; pages <= 12; pages++) {
            for (int handle = 0; handle < pages; handle++) {
                Store x = Store.withMany(pages, pages, 16);
                for (int kind = 0; kind < 4; kind++) {
                    x.due(kind == 0 ? 16 : Store.LEAST_OF_KIND[kind - 1], "resize", handle, Store.LEAST_OF_KIND[kind]);
                    x.due(pages, "needed");
                    x.dueWords(handle, Store.marksOf(handle, 1, Store.LEAST_OF_KIND[kind]));
                }
                for (int other = 0; other < pages; other++) {
                    if (other != handle) {
                        x.dueMarked(other, 16);
                    }
                }
            }
        }
    }

    /** What an object lost with a smaller size doesn't come back with a larger one. */
    private static void resizedWordsHold0Again() {
        for (int least = 1; least < 16; least++) {
            for (int most = least + 1; most <= 16; most++) {
                Store x = Store.with(2, most, 16);
                x.due(most, "resize", 0, least);
                x.due(least, "resize", 0, most);
                x.dueWords(0, Store.marksOf(0, least, most));
            }
        }
    }

    /** The new words lie where freed objects left others. */
    private static void resizedWordsHold0WhereFreedOnesDid() {
        for (int kind = 0; kind < 4; kind++) {
            int all = 2 * Store.PER_PAGE[kind];
            int size = Store.MOST_OF_KIND[kind];
            for (int after = 1; after <= 16; after++) {
                Store x = Store.withMany(2, all, size);
                for (int handle = 1; handle < all; handle++) {
                    x.due(size, "free", handle);
                }
                x.due(size, "resize", 0, after);
                x.dueWords(0, Store.marksOf(0, size, after));
            }
        }
    }

    private static void resizeKeepsTheHandle() {
        Store x = Store.with(4, 1, 3, 5, 9);
        x.due(1, "free", 0);
        x.due(5, "resize", 2, 10);
        x.due(10, "size", 2);
        x.due(0, "size", 0);
        x.due(1, "next", 0);
        x.due(2, "next", 2);
        x.due(0, "allocate", 1);
    }

    private static void resizeNoSize() {
        for (int before = 1; before <= 16; before++) {
            Store x = Store.with(2, before);
            for (int size : Store.NO_SIZE) {
                x.due(-2, "resize", 0, size);
            }
            x.dueMarked(0, before);
        }
    }

    /** All stores of two and of three pages, and in each of them every change of class. */
    private static void resizeBeyondThePages() {
        for (int pages = 2; pages <= 3; pages++) {
            for (int n0 = 0; n0 <= 8 * pages; n0++) {
                for (int n1 = 0; n1 <= 4 * pages; n1++) {
                    for (int n2 = 0; n2 <= 2 * pages; n2++) {
                        for (int n3 = 0; n3 <= pages; n3++) {
                            if (Store.neededFor(n0, n1, n2, n3) <= pages) {
                                resizeEachClass(pages, n0, n1, n2, n3);
                            }
                        }
                    }
                }
            }
        }
    }

    private static Store withEach(int pages, int... inKind) {
        Store x = new Store(pages);
        int handle = 0;
        for (int kind = 0; kind < 4; kind++) {
            for (int i = 0; i < inKind[kind]; i++) {
                x.due(handle, "allocate", Store.LEAST_OF_KIND[kind]);
                x.mark(handle, Store.LEAST_OF_KIND[kind]);
                handle++;
            }
        }
        return x;
    }

    private static void resizeEachClass(int pages, int... inKind) {
        int first = 0;
        for (int from = 0; from < 4; from++) {
            for (int to = 0; inKind[from] > 0 && to < 4; to++) {
                int[] then = inKind.clone();
                then[from]--;
                then[to]++;
                Store x = withEach(pages, inKind);
                int before = Store.LEAST_OF_KIND[from];
                int after = Store.MOST_OF_KIND[to];
                boolean fits = Store.neededFor(then) <= pages;
                x.due(fits ? before : -3, "resize", first, after);
                x.due(Store.neededFor(fits ? then : inKind), "needed");
                x.dueWords(first, Store.marksOf(first, before, fits ? after : before));
            }
            first += inKind[from];
        }
    }

    private static void resizeWith64() {
        Store x = crowded();
        for (int handle = 60; handle < 64; handle++) {
            x.due(1, "resize", handle, 16);
        }
        x.due(64, "live");
        x.due(12, "needed");
        x.due(-3, "resize", 0, 3);
    }

    // ---- Promise 6: copy

    private static void copyOfEachSize() {
        for (int size = 1; size <= 16; size++) {
            Store x = Store.with(2, size);
            x.due(1, "copy", 0);
            x.dueMarkedAs(1, 0, size);
            x.dueMarked(0, size);
        }
    }

    private static void copyIsAnother() {
        for (int size = 1; size <= 16; size++) {
            Store x = Store.with(3, size);
            x.due(1, "copy", 0);
            x.due(0, "write", 1, size - 1, -1);
            x.dueMarked(0, size);
            x.due(size, "fill", 0, -2, 0);
            x.due(-1, "read", 1, size - 1);
            x.due(size, "free", 0);
            x.due(size, "size", 1);
            x.due(-1, "read", 1, size - 1);
        }
    }

    /** A copy has the words of its object also where a freed one left others. */
    private static void copyWhereAFreedOneWas() {
        for (int size = 1; size <= 16; size++) {
            Store x = Store.with(2, size, size);
            x.due(size, "free", 1);
            x.due(1, "copy", 0);
            x.dueMarkedAs(1, 0, size);
        }
    }

    private static void copyAt64() {
        Store x = Store.withMany(12, 63, 1);
        x.due(63, "copy", 5);
        for (int handle = 0; handle < 64; handle++) {
            x.due(-2, "copy", handle);
        }
        x.due(1, "free", 9);
        x.due(9, "copy", 63);
        x.dueMarkedAs(9, 5, 1);
    }

    private static void copyBeyondThePages() {
        for (int kind = 0; kind < 4; kind++) {
            int fit = 2 * Store.PER_PAGE[kind];
            int size = Store.MOST_OF_KIND[kind];
            Store x = Store.withMany(2, fit - 1, size);
            x.due(fit - 1, "copy", 0);
            for (int handle = 0; handle < fit; handle++) {
                x.due(-3, "copy", handle);
            }
            x.due(size, "free", 0);
            x.due(0, "copy", fit - 1);
            x.dueMarked(0, size);
        }
    }

    // ---- Promise 7: freeClass

    private static void freeNoClass() {
        Store x = Store.with(6, 1, 3, 5, 9);
        for (int kind : Store.NO_KIND) {
            x.due(-1, "freeClass", kind);
        }
        x.due(4, "live");
        for (int kind = 0; kind < 4; kind++) {
            x.due(1, "freeClass", kind);
        }
    }

    private static void freeClassWithoutObjects() {
        for (int kind = 0; kind < 4; kind++) {
            new Store(2).due(0, "freeClass", kind);
            Store x = Store.with(6, 2, 4, 8, 16);
            x.due(1, "freeClass", kind);
            x.due(0, "freeClass", kind);
            x.due(3, "live");
            for (int other = 0; other < 4; other++) {
                if (other != kind) {
                    x.dueMarked(other, Store.MOST_OF_KIND[other]);
                }
            }
        }
    }

    private static void freeAllOfAClass() {
        for (int kind = 0; kind < 4; kind++) {
            Store x = Store.with(12, 1, 3, 5, 9, 2, 4, 6, 10, 1, 3, 7, 13, 2, 4, 8, 16);
            x.due(4, "freeClass", kind);
            x.due(12, "live");
            x.due(0, "liveIn", kind);
            int[] sizes = {1, 3, 5, 9, 2, 4, 6, 10, 1, 3, 7, 13, 2, 4, 8, 16};
            for (int handle = 0; handle < 16; handle++) {
                if (handle % 4 == kind) {
                    x.due(0, "size", handle);
                } else {
                    x.dueMarked(handle, sizes[handle]);
                }
            }
        }
    }

    private static void freeAllOf64() {
        Store x = fullWith64();
        x.due(64, "freeClass", 0);
        x.due(0, "live");
        x.due(0, "needed");
        for (int handle = 0; handle < 8; handle++) {
            x.due(handle, "allocate", 16);
        }
        x.due(-3, "allocate", 1);
    }

    // ---- Promise 9: write

    private static void writeNoWord() {
        for (int size = 1; size <= 16; size++) {
            Store x = Store.with(2, size);
            x.due(-2, "write", 0, size, 7);
            x.due(-2, "write", 0, 16, 7);
            x.due(-2, "write", 0, -1, 7);
            x.due(-2, "write", 0, Store.LEAST, 7);
            x.due(-2, "write", 0, Store.GREATEST, 7);
            x.due(0, "write", 0, size - 1, 8);
            x.due(0, "count", 7);
            x.due(1, "count", 8);
        }
    }

    private static void writeOneWordAlone() {
        for (int word = 0; word < 16; word++) {
            Store x = Store.with(3, 16, 16, 16);
            x.due(0, "write", 1, word, Store.LEAST);
            x.due(1, "count", Store.LEAST);
            x.due(Store.LEAST, "read", 1, word);
            x.dueMarked(0, 16);
            x.dueMarked(2, 16);
        }
    }

    // ---- Promise 10: fill

    private static void fillOnce(int size, int value, int step) {
        Store x = Store.with(2, size, 16);
        x.due(size, "fill", 0, value, step);
        int[] words = new int[size];
        for (int k = 0; k < size; k++) {
            words[k] = (int) (value + (long) k * step);
        }
        x.dueWords(0, words);
        x.dueMarked(1, 16);
    }

    private static void fillEachSize() {
        for (int size = 1; size <= 16; size++) {
            fillOnce(size, 5, 3);
            fillOnce(size, -5, -3);
            fillOnce(size, 9, 0);
        }
    }

    private static void fillWraps() {
        int[] ends = {Store.LEAST, Store.LEAST + 1, -1, 0, 1, 1 << 28, 1 << 30, Store.GREATEST - 1, Store.GREATEST};
        for (int value : ends) {
            for (int step : ends) {
                fillOnce(16, value, step);
            }
        }
        Store x = Store.with(2, 3);
        x.due(3, "fill", 0, Store.GREATEST, 1);
        x.dueWords(0, Store.GREATEST, Store.LEAST, Store.LEAST + 1);
        x.due(3, "fill", 0, Store.LEAST, -1);
        x.dueWords(0, Store.LEAST, Store.GREATEST, Store.GREATEST - 1);
        x.due(3, "fill", 0, 0, Store.GREATEST);
        x.dueWords(0, 0, Store.GREATEST, -2);
    }

    // ---- Promise 11: exchange

    private static void exchangeFirstNotGood(Store x, int odd) {
        x.due(-1, "exchange", odd, 1);
    }

    private static void exchangeSecondNotGood(Store x, int odd) {
        x.due(-1, "exchange", 1, odd);
    }

    private static void exchangeBothNotGood(Store x, int odd) {
        x.due(-1, "exchange", odd, odd);
    }

    private static void exchangeWithItself() {
        for (int size = 1; size <= 16; size++) {
            int same = size;
            Store.dueUnchangedBy(() -> Store.with(3, same, 1, 3), x -> x.due(0, "exchange", 0, 0));
        }
    }

    private static void exchangeOfEachTwo() {
        for (int a = 1; a <= 16; a++) {
            for (int b = 1; b <= 16; b++) {
                Store x = Store.with(2, a, b);
                x.due(0, "exchange", 0, 1);
                x.dueMarkedAs(0, 1, b);
                x.dueMarkedAs(1, 0, a);
                x.due(2, "live");
                x.due(0, "exchange", 0, 1);
                x.dueMarked(0, a);
                x.dueMarked(1, b);
            }
        }
    }

    /** In a full store, and each handle then frees and resizes what the other one named. */
    private static void exchangeOfTwoClasses() {
        Store x = Store.with(4, 2, 4, 8, 16);
        x.due(0, "exchange", 0, 3);
        x.due(0, "exchange", 1, 2);
        x.due(4, "needed");
        x.dueMarkedAs(0, 3, 16);
        x.dueMarkedAs(3, 0, 2);
        x.dueMarkedAs(1, 2, 8);
        x.dueMarkedAs(2, 1, 4);
        x.due(16, "resize", 0, 3);
        x.dueWords(0, Store.marksOf(3, 3, 3));
        x.due(3, "needed");
        x.due(2, "liveIn", 1);
        x.due(2, "free", 3);
        x.due(8, "free", 1);
        x.due(1, "needed");
        x.dueMarkedAs(2, 1, 4);
        x.dueWords(0, Store.marksOf(3, 3, 3));
    }

    /** Objects that were exchanged still move rightly where a gap is closed. */
    private static void exchangeThenFree() {
        for (int a = 0; a < 9; a++) {
            for (int b = 0; b < 9; b++) {
                for (int freed = 0; freed < 9; freed++) {
                    exchangeThenFree(a, b, freed);
                }
            }
        }
    }

    private static void exchangeThenFree(int a, int b, int freed) {
        Store x = Store.withMany(3, 9, 2);
        x.due(0, "exchange", a, b);
        x.due(2, "free", freed);
        x.due(1, "needed");
        for (int handle = 0; handle < 9; handle++) {
            if (handle != freed) {
                x.dueMarkedAs(handle, handle == a ? b : handle == b ? a : handle, 2);
            }
        }
    }

    private static void promise1() {
        Sentence.holds("1: pages below 2 becomes 2", ChangesTest::pagesBelow2);
        Sentence.holds("1: above 12 becomes 12", ChangesTest::pagesAbove12);
        Sentence.holds("1: pages is P, from 2 to 12", ChangesTest::pagesFrom2To12);
        Sentence.holds("1: No objects at first", ChangesTest::noObjectsAtFirst);
    }

    private static void promise3() {
        Sentence.holds("3: all its words hold 0", ChangesTest::newWordsHold0);
        Sentence.holds("3: all its words hold 0, where a class was freed", ChangesTest::newWordsHold0WhereFreedOnesDid);
        Sentence.holds("3: all its words hold 0, where one was freed", ChangesTest::newWordsHold0WhereOneWasFreed);
        Sentence.holds("3: -1 if size is not in 1 .. 16", ChangesTest::allocateNoSize);
        Sentence.holds("3: -2 if 64 objects live", ChangesTest::allocateAt64);
        Sentence.holds("3: -3 if more than P pages would be needed", ChangesTest::allocateBeyondThePages);
        Sentence.holds("3: not -3 while the last page has room", ChangesTest::allocateOnTheLastPage);
    }

    private static void promise4() {
        notGood("4: free: -1 if the handle is not good", (x, odd) -> x.due(-1, "free", odd));
        Sentence.holds("4: otherwise answers its size", ChangesTest::freeAnswersTheSize);
        Sentence.holds("4: answers its size, after other changes", ChangesTest::freeAfterOtherChanges);
        Sentence.holds("4: the first and the last of 64", ChangesTest::freeTheLastAndTheFirstOf64);
    }

    private static void promise5() {
        notGood("5: resize: -1 if the handle is not good", (x, odd) -> x.due(-1, "resize", odd, 2));
        Sentence.holds("5: to a smaller size", ChangesTest::resizeToSmaller);
        Sentence.holds("5: to a larger size", ChangesTest::resizeToLarger);
        Sentence.holds("5: to the same size", ChangesTest::resizeToTheSame);
        Sentence.holds("5: to another class when all pages are needed", ChangesTest::resizeWhenAllPagesAreNeeded);
        Sentence.holds("5: new ones hold 0, after a smaller size", ChangesTest::resizedWordsHold0Again);
        Sentence.holds("5: new ones hold 0, where others were freed", ChangesTest::resizedWordsHold0WhereFreedOnesDid);
        Sentence.holds("5: the handle stays", ChangesTest::resizeKeepsTheHandle);
        Sentence.holds("5: -2 if size is not in 1 .. 16", ChangesTest::resizeNoSize);
        Sentence.holds("5: -3 if more than P pages would be needed then", ChangesTest::resizeBeyondThePages);
        Sentence.holds("5: 64 objects are no bar", ChangesTest::resizeWith64);
    }

    private static void promise6() {
        notGood("6: copy: -1 if the handle is not good", (x, odd) -> x.due(-1, "copy", odd));
        Sentence.holds("6: the size and the words of an object", ChangesTest::copyOfEachSize);
        Sentence.holds("6: A new object", ChangesTest::copyIsAnother);
        Sentence.holds("6: the words of an object, where one was freed", ChangesTest::copyWhereAFreedOneWas);
        Sentence.holds("6: -2 if 64 objects live", ChangesTest::copyAt64);
        Sentence.holds("6: -3 if more than P pages would be needed", ChangesTest::copyBeyondThePages);
    }

    private static void promise7() {
        Sentence.holds("7: -1 if kind is not in 0 .. 3", ChangesTest::freeNoClass);
        Sentence.holds("7: a class with no objects", ChangesTest::freeClassWithoutObjects);
        Sentence.holds("7: Frees all objects of a class", ChangesTest::freeAllOfAClass);
        Sentence.holds("7: answers how many those were, all 64", ChangesTest::freeAllOf64);
    }

    private static void promises9To11() {
        notGood("9: write: -1 if the handle is not good", (x, odd) -> x.due(-1, "write", odd, 0, 7));
        Sentence.holds("9: -2 if word is not in 0 .. size-1", ChangesTest::writeNoWord);
        Sentence.holds("9: A word gets the value", ChangesTest::writeOneWordAlone);
        notGood("10: fill: -1 if the handle is not good", (x, odd) -> x.due(-1, "fill", odd, 7, 7));
        Sentence.holds("10: All words of an object, answers its size", ChangesTest::fillEachSize);
        Sentence.holds("10: wrapping like an int", ChangesTest::fillWraps);
        notGood("11: exchange: -1 if the first is not good", ChangesTest::exchangeFirstNotGood);
        notGood("11: exchange: -1 if the second is not good", ChangesTest::exchangeSecondNotGood);
        notGood("11: exchange: -1 if both are not good", ChangesTest::exchangeBothNotGood);
        Sentence.holds("11: the same handle twice", ChangesTest::exchangeWithItself);
        Sentence.holds("11: each handle names what the other one did", ChangesTest::exchangeOfEachTwo);
        Sentence.holds("11: objects of two classes", ChangesTest::exchangeOfTwoClasses);
        Sentence.holds("11: what was exchanged stays so", ChangesTest::exchangeThenFree);
    }

    public static void main(String[] args) {
        promise1();
        promise3();
        promise4();
        promise5();
        promise6();
        promise7();
        promises9To11();
        Sentence.finish();
    }
}
