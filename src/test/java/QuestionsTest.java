/** One test for each sentence of the promises 2, 8 and 12 to 20 that names a boundary case. */
public final class QuestionsTest {
    /** Objects of every class, among whose handles 2, 5 and 6 were freed. */
    private static Store withGaps() {
        Store x = Store.with(12, 1, 3, 5, 9, 2, 4, 8, 16, 1, 3);
        x.due(5, "free", 2);
        x.due(4, "free", 5);
        x.due(8, "free", 6);
        return x;
    }

    private static void notGood(String sentence, String question, int... more) {
        Sentence.holds(sentence + " (negative)", () -> {
            Store x = withGaps();
            for (int handle : Store.NEGATIVE) {
                x.due(0, question, withMore(handle, more));
            }
        });
        Sentence.holds(sentence + " (64 and above)", () -> {
            Store x = Store.withMany(8, 64, 2);
            for (int handle : Store.FROM_64) {
                x.due(0, question, withMore(handle, more));
            }
        });
        Sentence.holds(sentence + " (never given)", () -> {
            Store x = withGaps();
            for (int handle = 10; handle < 64; handle++) {
                x.due(0, question, withMore(handle, more));
            }
            new Store(2).due(0, question, withMore(0, more));
        });
        Sentence.holds(sentence + " (freed)", () -> {
            Store x = withGaps();
            x.due(0, question, withMore(2, more));
            x.due(0, question, withMore(5, more));
            x.due(0, question, withMore(6, more));
            x.due(2, "freeClass", 3);
            x.due(0, question, withMore(3, more));
            x.due(0, question, withMore(7, more));
        });
    }

    private static int[] withMore(int handle, int... more) {
        return more.length == 0 ? new int[] {handle} : new int[] {handle, more[0]};
    }

    // ---- Promise 2: pages

    private static void pagesStays() {
        for (int pages = 2; pages <= 12; pages++) {
            Store x = new Store(pages);
            x.due(pages, "pages");
            for (int i = 0; i <= pages; i++) {
                x.call("allocate", 16);
                x.due(pages, "pages");
            }
            x.due(pages, "freeClass", 3);
            x.due(pages, "pages");
        }
    }

    // ---- Promise 8: read

    private static void readNoWord() {
        for (int size = 1; size <= 16; size++) {
            // A second object of the size lies where words beyond the first one's would be.
            Store x = Store.with(2, size, size);
            for (int handle = 0; handle < 2; handle++) {
                x.due(Store.markOf(handle, size - 1), "read", handle, size - 1);
                for (int word = size; word <= 33; word++) {
                    x.due(0, "read", handle, word);
                }
                for (int word : Store.NEGATIVE) {
                    x.due(0, "read", handle, word);
                }
                x.due(0, "read", handle, Store.GREATEST);
            }
        }
    }

    /** Words that an object has lost are not its words. */
    private static void readAfterASmallerSize() {
        for (int size = 1; size < 16; size++) {
            Store x = Store.with(2, 16);
            x.due(16, "resize", 0, size);
            for (int word = 0; word < 16; word++) {
                x.due(word < size ? Store.markOf(0, word) : 0, "read", 0, word);
            }
        }
    }

    // ---- Promises 12 to 14: size, live, liveIn

    private static void sizeFollowsChanges() {
        for (int size = 1; size <= 16; size++) {
            Store x = Store.with(4, size, 17 - size);
            x.due(size, "size", 0);
            x.due(0, "exchange", 0, 1);
            x.due(17 - size, "size", 0);
            x.due(size, "size", 1);
            x.due(size, "resize", 1, 3);
            x.due(3, "size", 1);
            x.due(2, "copy", 0);
            x.due(17 - size, "size", 2);
        }
    }

    private static void liveFrom0To64() {
        Store x = new Store(8);
        for (int objects = 0; objects < 64; objects++) {
            x.due(objects, "live");
            x.due(objects, "allocate", 1 + objects % 2);
        }
        x.due(64, "live");
        x.due(-2, "allocate", 1);
        x.due(64, "live");
        for (int objects = 64; objects > 0; objects--) {
            x.due(objects, "live");
            x.due(1 + (objects - 1) % 2, "free", objects - 1);
        }
        x.due(0, "live");
    }

    private static void liveInNoClass() {
        Store x = Store.with(6, 1, 3, 5, 9);
        for (int kind : Store.NO_KIND) {
            x.due(-1, "liveIn", kind);
        }
    }

    private static void liveInAClassWithoutObjects() {
        for (int kind = 0; kind < 4; kind++) {
            new Store(2).due(0, "liveIn", kind);
            Store x = Store.with(6, 1, 3, 5, 9);
            x.due(1, "liveIn", kind);
            x.due(Store.LEAST_OF_KIND[kind], "free", kind);
            x.due(0, "liveIn", kind);
        }
    }

    private static void liveInFollowsChanges() {
        Store x = Store.with(6, 2, 4, 8, 16);
        for (int from = 0; from < 4; from++) {
            for (int to = 0; to < 4; to++) {
                int[] inKind = {1, 1, 1, 1};
                inKind[from]--;
                inKind[to]++;
                x.due(Store.MOST_OF_KIND[from], "resize", from, Store.LEAST_OF_KIND[to]);
                for (int kind = 0; kind < 4; kind++) {
                    x.due(inKind[kind], "liveIn", kind);
                }
                x.due(Store.LEAST_OF_KIND[to], "resize", from, Store.MOST_OF_KIND[from]);
            }
        }
        x.due(0, "exchange", 0, 3);
        for (int kind = 0; kind < 4; kind++) {
            x.due(1, "liveIn", kind);
        }
        Store.withMany(8, 64, 1).due(64, "liveIn", 0);
    }

    // ---- Promise 15: needed

    private static void neededFromNoneToAll() {
        for (int kind = 0; kind < 4; kind++) {
            int per = Store.PER_PAGE[kind];
            int[] inKind = new int[4];
            Store x = new Store(5);
            for (int i = 0; i < 5 * per; i++) {
                x.due(Store.neededFor(inKind), "needed");
                x.due(i, "allocate", Store.LEAST_OF_KIND[kind]);
                inKind[kind]++;
            }
            x.due(5, "needed");
            x.due(-3, "allocate", Store.LEAST_OF_KIND[kind]);
            x.due(5, "needed");
            for (int i = 0; i < 5 * per; i++) {
                x.due(Store.LEAST_OF_KIND[kind], "free", i);
                inKind[kind]--;
                x.due(Store.neededFor(inKind), "needed");
            }
        }
    }

    // ---- Promise 16: roomFor

    private static void roomForNoClass() {
        Store x = Store.with(6, 1, 3, 5, 9);
        for (int kind : Store.NO_KIND) {
            x.due(-1, "roomFor", kind);
            new Store(2).due(-1, "roomFor", kind);
        }
    }

    private static void roomWhenEmpty() {
        for (int pages = 2; pages <= 12; pages++) {
            for (int kind = 0; kind < 4; kind++) {
                new Store(pages).due(pages * Store.PER_PAGE[kind], "roomFor", kind);
            }
        }
    }

    private static void roomWhenFull() {
        for (int full = 0; full < 4; full++) {
            Store x = Store.withMany(3, 3 * Store.PER_PAGE[full], Store.MOST_OF_KIND[full]);
            for (int kind = 0; kind < 4; kind++) {
                x.due(0, "roomFor", kind);
            }
        }
    }

    /** All stores of two and of three pages: so many can be allocated, and not one more. */
    private static void roomIsWhatCanBeAllocated() {
        for (int pages = 2; pages <= 3; pages++) {
            for (int n0 = 0; n0 <= 8 * pages; n0++) {
                for (int n1 = 0; n1 <= 4 * pages; n1++) {
                    for (int n2 = 0; n2 <= 2 * pages; n2++) {
                        for (int n3 = 0; n3 <= pages; n3++) {
                            if (Store.neededFor(n0, n1, n2, n3) <= pages) {
                                allocateTheRoom(pages, n0, n1, n2, n3);
                            }
                        }
                    }
                }
            }
        }
    }

    private static void allocateTheRoom(int pages, int... inKind) {
        for (int wanted = 0; wanted < 4; wanted++) {
            Store x = new Store(pages);
            int handle = 0;
            for (int kind = 0; kind < 4; kind++) {
                for (int i = 0; i < inKind[kind]; i++) {
                    x.due(handle++, "allocate", Store.LEAST_OF_KIND[kind]);
                }
            }
            int room = x.call("roomFor", wanted);
            for (int left = room; left > 0; left--) {
                x.due(left, "roomFor", wanted);
                x.due(handle++, "allocate", Store.MOST_OF_KIND[wanted]);
            }
            x.due(0, "roomFor", wanted);
            x.due(-3, "allocate", Store.LEAST_OF_KIND[wanted]);
        }
    }

    private static void roomBeyond64Objects() {
        Store x = new Store(12);
        x.due(96, "roomFor", 0);
        for (int i = 0; i < 64; i++) {
            x.due(i, "allocate", 1);
            x.due(95 - i, "roomFor", 0);
        }
        x.due(-2, "allocate", 1);
        x.due(32, "roomFor", 0);
        x.due(16, "roomFor", 1);
        x.due(8, "roomFor", 2);
        x.due(4, "roomFor", 3);
    }

    // ---- Promise 17: sum

    private static void sumOfAllWords() {
        for (int size = 1; size <= 16; size++) {
            Store x = Store.with(2, 16, 16);
            x.due(16, "resize", 0, size);
            int sum = 0;
            for (int word = 0; word < size; word++) {
                sum += Store.markOf(0, word);
            }
            x.due(sum, "sum", 0);
        }
    }

    private static void sumWraps() {
        Store x = new Store(2);
        x.due(0, "allocate", 2);
        x.due(2, "fill", 0, Store.GREATEST, 0);
        x.due(-2, "sum", 0);
        x.due(2, "fill", 0, Store.LEAST, 0);
        x.due(0, "sum", 0);
        x.due(0, "write", 0, 1, -1);
        x.due(Store.GREATEST, "sum", 0);
        x.due(0, "write", 0, 1, Store.GREATEST);
        x.due(-1, "sum", 0);
        x.due(1, "allocate", 16);
        x.due(16, "fill", 1, Store.GREATEST, 0);
        x.due(-16, "sum", 1);
        x.due(16, "fill", 1, 1 << 30, 0);
        x.due(0, "sum", 1);
    }

    // ---- Promise 18: next

    private static void nextFromTheLeastInt() {
        Store x = withGaps();
        x.due(0, "next", Store.LEAST);
        x.due(0, "next", Store.LEAST + 1);
        x.due(0, "next", -1);
        x.due(1, "free", 0);
        x.due(1, "next", Store.LEAST);
        x.due(1, "next", -1);
        Store last = Store.withMany(8, 64, 1);
        for (int handle = 0; handle < 63; handle++) {
            last.due(1, "free", handle);
        }
        last.due(63, "next", Store.LEAST);
        last.due(63, "next", 0);
    }

    private static void nextFromTheGreatestInt() {
        Store x = Store.withMany(8, 64, 1);
        for (int from : Store.FROM_64) {
            x.due(-1, "next", from);
        }
        x.due(63, "next", 63);
    }

    private static void nextIsTheLeast() {
        Store x = withGaps();
        int[] want = {0, 1, 3, 3, 4, 7, 7, 7, 8, 9, -1, -1};
        for (int from = 0; from < want.length; from++) {
            x.due(want[from], "next", from);
        }
        x.due(-1, "next", 63);
    }

    private static void nextWhenNoneIsGood() {
        int[] froms = {Store.LEAST, -1, 0, 1, 63, 64, Store.GREATEST};
        Store x = new Store(2);
        Store freed = Store.with(2, 1, 16);
        freed.due(1, "free", 0);
        freed.due(16, "free", 1);
        for (int from : froms) {
            x.due(-1, "next", from);
            freed.due(-1, "next", from);
        }
    }

    // ---- Promise 19: count

    private static void countNotBeyondTheSize() {
        for (int size = 1; size <= 16; size++) {
            Store x = new Store(2);
            x.due(0, "allocate", 16);
            x.due(16, "fill", 0, 7, 0);
            x.due(16, "count", 7);
            x.due(0, "count", 0);
            x.due(16, "resize", 0, size);
            x.due(size, "count", 7);
            x.due(0, "count", 0);
            x.due(size, "resize", 0, 16);
            x.due(size, "count", 7);
            x.due(16 - size, "count", 0);
        }
    }

    private static void countNotWhatWasFreed() {
        for (int size = 1; size <= 16; size++) {
            Store x = new Store(2);
            x.due(0, "allocate", size);
            x.due(size, "fill", 0, 7, 0);
            x.due(1, "copy", 0);
            x.due(2 * size, "count", 7);
            x.due(size, "free", 0);
            x.due(size, "count", 7);
            x.due(1, "freeClass", Store.kindOf(size));
            x.due(0, "count", 7);
            x.due(0, "count", 0);
        }
    }

    private static void countOfAllTogether() {
        Store x = new Store(12);
        for (int handle = 0; handle < 12; handle++) {
            x.due(handle, "allocate", 16);
            x.due(16, "fill", handle, Store.LEAST, 0);
        }
        x.due(192, "count", Store.LEAST);
        x.due(0, "count", Store.GREATEST);
        x.due(0, "write", 11, 15, Store.GREATEST);
        x.due(1, "count", Store.GREATEST);
        x.due(191, "count", Store.LEAST);
        Store.withMany(8, 64, 1).due(1, "count", Store.markOf(63, 0));
        new Store(2).due(0, "count", 0);
    }

    // ---- Promise 20: faults

    private static void noFaultsWhileAllocatedAndFreed() {
        for (int kind = 0; kind < 4; kind++) {
            int all = 4 * Store.PER_PAGE[kind];
            // Each stride goes through all handles, so that objects leave in many orders.
            for (int stride : new int[] {1, 3, 5, 7, 11, 13, 15, 31}) {
                Store x = Store.withMany(4, all, Store.MOST_OF_KIND[kind]);
                x.due(0, "faults");
                for (int i = 0; i < all; i++) {
                    x.due(Store.MOST_OF_KIND[kind], "free", i * stride % all);
                    x.due(0, "faults");
                }
            }
        }
    }

    private static void noFaultsWhileResized() {
        Store x = Store.with(6, 1, 3, 5, 9, 2, 4, 1, 1);
        for (int i = 0; i < 120; i++) {
            x.call("resize", i * 3 % 8, 1 + i * 7 % 16);
            x.due(0, "faults");
        }
    }

    private static void noFaultsWhileExchanged() {
        Store x = Store.with(6, 1, 3, 5, 9, 2, 4, 1, 1, 1, 2, 2);
        for (int i = 0; i < 60; i++) {
            x.due(0, "exchange", i * 3 % 11, i * 5 % 11);
            x.due(0, "faults");
        }
        for (int handle = 0; handle < 11; handle++) {
            x.call("free", handle);
            x.due(0, "faults");
        }
    }

    private static void noFaultsAfterRefusals() {
        Store x = Store.with(2, 1, 16);
        x.due(-3, "allocate", 3);
        x.due(0, "faults");
        x.due(2, "allocate", 1);
        x.due(-3, "resize", 0, 3);
        x.due(0, "faults");
        x.due(-3, "copy", 1);
        x.due(0, "faults");
    }

    private static void noFaultsAfterAClassIsFreed() {
        for (int kind = 0; kind < 4; kind++) {
            Store x = Store.with(12, 1, 3, 5, 9, 2, 4, 6, 10, 1, 3, 7, 13, 2, 4, 8, 16);
            x.due(4, "freeClass", kind);
            x.due(0, "faults");
            for (int other = 0; other < 4; other++) {
                x.call("freeClass", other);
                x.due(0, "faults");
            }
        }
        new Store(2).due(0, "faults");
    }

    public static void main(String[] args) {
        Sentence.holds("2: P", QuestionsTest::pagesStays);
        notGood("8: read: 0 if the handle is not good", "read", 0);
        Sentence.holds("8: or word is not in 0 .. size-1", QuestionsTest::readNoWord);
        Sentence.holds("8: word is not in 0 .. size-1, after a smaller size", QuestionsTest::readAfterASmallerSize);
        notGood("12: size: 0 if the handle is not good", "size");
        Sentence.holds("12: The size of an object", QuestionsTest::sizeFollowsChanges);
        Sentence.holds("13: How many objects live", QuestionsTest::liveFrom0To64);
        Sentence.holds("14: -1 if kind is not in 0 .. 3", QuestionsTest::liveInNoClass);
        Sentence.holds("14: a class with no objects", QuestionsTest::liveInAClassWithoutObjects);
        Sentence.holds("14: How many objects of a class live", QuestionsTest::liveInFollowsChanges);
        Sentence.holds("15: How many pages are needed now", QuestionsTest::neededFromNoneToAll);
        Sentence.holds("16: -1 if kind is not in 0 .. 3", QuestionsTest::roomForNoClass);
        Sentence.holds("16: a store with no objects", QuestionsTest::roomWhenEmpty);
        Sentence.holds("16: full", QuestionsTest::roomWhenFull);
        Sentence.holds("16: How many more objects could be allocated now", QuestionsTest::roomIsWhatCanBeAllocated);
        Sentence.holds("16: the limit of 64 objects plays no part", QuestionsTest::roomBeyond64Objects);
        notGood("17: sum: 0 if the handle is not good", "sum");
        Sentence.holds("17: The sum of all words of an object", QuestionsTest::sumOfAllWords);
        Sentence.holds("17: wrapping like an int", QuestionsTest::sumWraps);
        Sentence.holds("18: from below 0, the least int too", QuestionsTest::nextFromTheLeastInt);
        Sentence.holds("18: from above 63, the greatest int too", QuestionsTest::nextFromTheGreatestInt);
        Sentence.holds("18: The least good handle that is at least from", QuestionsTest::nextIsTheLeast);
        Sentence.holds("18: -1 if there is none", QuestionsTest::nextWhenNoneIsGood);
        Sentence.holds("19: words beyond an object's size don't count", QuestionsTest::countNotBeyondTheSize);
        Sentence.holds("19: words of freed objects don't count", QuestionsTest::countNotWhatWasFreed);
        Sentence.holds("19: all live objects together", QuestionsTest::countOfAllTogether);
        Sentence.holds("20: always 0, allocated and freed", QuestionsTest::noFaultsWhileAllocatedAndFreed);
        Sentence.holds("20: always 0, resized", QuestionsTest::noFaultsWhileResized);
        Sentence.holds("20: always 0, exchanged", QuestionsTest::noFaultsWhileExchanged);
        Sentence.holds("20: always 0, refused", QuestionsTest::noFaultsAfterRefusals);
        Sentence.holds("20: always 0, a class freed", QuestionsTest::noFaultsAfterAClassIsFreed);
        Sentence.finish();
    }
}
