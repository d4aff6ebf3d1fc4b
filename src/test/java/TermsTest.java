/** One test for each sentence of the document's "Terms". */
public final class TermsTest {
    private static void pagesOf16Words() {
        for (int pages = 2; pages <= 12; pages++) {
            Store x = new Store(pages);
            for (int handle = 0; handle < pages; handle++) {
                x.due(handle, "allocate", 16);
                x.mark(handle, 16);
            }
            x.due(-3, "allocate", 16);
            x.due(-3, "allocate", 1);
            for (int handle = 0; handle < pages; handle++) {
                x.dueMarked(handle, 16);
            }
        }
    }

    private static void sizes1To16() {
        for (int size = 1; size <= 16; size++) {
            Store x = new Store(2);
            x.due(0, "allocate", size);
            x.due(size, "size", 0);
            x.due(size, "count", 0);
        }
        Store x = new Store(2);
        x.due(-1, "allocate", 0);
        x.due(-1, "allocate", 17);
    }

    private static void everyIntInEveryWord() {
        int[] values = {Store.LEAST, Store.LEAST + 1, -65536, -1, 0, 1, 255, 256, 32768, 65536, Store.GREATEST};
        for (int value : values) {
            Store x = Store.with(2, 16, 16);
            for (int word = 0; word < 16; word++) {
                x.due(0, "write", 0, word, value);
                x.due(value, "read", 0, word);
            }
            x.due(16, "count", value);
            x.dueMarked(1, 16);
        }
    }

    private static void classOfASize(int kind, int least, int most) {
        for (int size = least; size <= most; size++) {
            Store x = Store.with(2, size);
            for (int other = 0; other < 4; other++) {
                x.due(other == kind ? 1 : 0, "liveIn", other);
            }
        }
    }

    /** With a second page that is taken, one page alone tells how many it holds. */
    private static void onePageHolds(int kind, int howMany) {
        int takenKind = kind == 3 ? 2 : 3;
        for (int size = Store.LEAST_OF_KIND[kind]; size <= Store.MOST_OF_KIND[kind]; size++) {
            Store x = new Store(2);
            x.due(0, "allocate", Store.MOST_OF_KIND[takenKind]);
            for (int i = 1; i <= howMany; i++) {
                x.due(i, "allocate", size);
                x.mark(i, size);
            }
            x.due(-3, "allocate", size);
            x.due(2, "needed");
            for (int i = 1; i <= howMany; i++) {
                x.dueMarked(i, size);
            }
        }
    }

    private static void onlyOneClassOnAPage() {
        for (int first = 0; first < 4; first++) {
            for (int second = 0; second < 4; second++) {
                for (int third = 0; third < 4; third++) {
                    if (first != second && second != third && first != third) {
                        Store x = Store.with(2, Store.LEAST_OF_KIND[first], Store.LEAST_OF_KIND[second]);
                        x.due(2, "needed");
                        x.due(-3, "allocate", Store.LEAST_OF_KIND[third]);
                    }
                }
            }
        }
    }

    private static void roundedUp() {
        for (int kind = 0; kind < 4; kind++) {
            int per = Store.PER_PAGE[kind];
            for (int pages = 1; pages <= 5; pages++) {
                Store x = Store.withMany(12, pages * per, Store.LEAST_OF_KIND[kind]);
                x.due(pages, "needed");
                x.due(pages * per, "allocate", Store.MOST_OF_KIND[kind]);
                x.due(pages + 1, "needed");
            }
        }
    }

    private static void summedOverTheClasses() {
        Store x = new Store(12);
        x.due(0, "needed");
        int[] inKind = new int[4];
        int[] order = {0, 3, 2, 2, 2, 1, 1, 1, 1, 0, 0, 0, 0, 1, 0, 0, 0, 3, 0, 2};
        for (int i = 0; i < order.length; i++) {
            x.due(i, "allocate", Store.LEAST_OF_KIND[order[i]]);
            inKind[order[i]]++;
            x.due(Store.neededFor(inKind), "needed");
        }
    }

    private static void anyObjectsCanLiveTogether() {
        for (int pages = 2; pages <= 5; pages++) {
            for (int n0 = 0; n0 <= 8 * pages; n0++) {
                for (int n1 = 0; n1 <= 4 * pages; n1++) {
                    for (int n2 = 0; n2 <= 2 * pages; n2++) {
                        for (int n3 = 0; n3 <= pages; n3++) {
                            if (Store.neededFor(n0, n1, n2, n3) <= pages) {
                                togetherAfterOthers(pages, n0, n1, n2, n3);
                            }
                        }
                    }
                }
            }
        }
    }

    /** Before, the store was full of one class, and its objects that stay were spread over all pages. */
    private static void togetherAfterOthers(int pages, int... inKind) {
        for (int full = 0; full < 4; full++) {
            int before = pages * Store.PER_PAGE[full];
            int size = Store.MOST_OF_KIND[full];
            boolean[] stays = new boolean[before];
            for (int i = 0; i < inKind[full]; i++) {
                stays[i * before / inKind[full]] = true;
            }
            Store x = Store.withMany(pages, before, size);
            for (int handle = 0; handle < before; handle++) {
                if (!stays[handle]) {
                    x.due(size, "free", handle);
                }
            }
            allocateTheOthers(x, full, inKind);
            x.due(Store.neededFor(inKind), "needed");
            for (int handle = 0; handle < before; handle++) {
                if (stays[handle]) {
                    x.dueMarked(handle, size);
                }
            }
            refuseWhatIsBeyond(x, pages, inKind);
        }
    }

    private static void allocateTheOthers(Store x, int full, int... inKind) {
        for (int kind = 0; kind < 4; kind++) {
            for (int i = 0; kind != full && i < inKind[kind]; i++) {
                int handle = x.call("allocate", Store.MOST_OF_KIND[kind]);
                Sentence.due("allocate >= 0", handle >= 0 ? 1 : 0, 1);
                x.due(Store.MOST_OF_KIND[kind], "fill", handle, -1, 0);
            }
        }
    }

    private static void refuseWhatIsBeyond(Store x, int pages, int... inKind) {
        for (int kind = 0; kind < 4; kind++) {
            int[] more = inKind.clone();
            more[kind]++;
            if (Store.neededFor(more) > pages) {
                x.due(-3, "allocate", Store.LEAST_OF_KIND[kind]);
            }
        }
    }

    /** Of every two pages full of one class any objects may stay: their words do, and no page is wasted. */
    private static void anyObjectsMayStay() {
        for (int kind = 0; kind < 4; kind++) {
            int all = 2 * Store.PER_PAGE[kind];
            // A step keeps the 65536 choices of class 0 few; it shares no factor with them.
            int step = kind == 0 ? 7 : 1;
            for (int freed = 0; freed < 1 << all; freed += step) {
                stayAndStayWhole(kind, all, freed, true);
                stayAndStayWhole(kind, all, freed, false);
            }
        }
    }

    private static void stayAndStayWhole(int kind, int all, int freed, boolean upwards) {
        int size = Store.MOST_OF_KIND[kind];
        Store x = Store.withMany(2, all, size);
        for (int i = 0; i < all; i++) {
            int handle = upwards ? i : all - 1 - i;
            if ((freed >> handle & 1) == 1) {
                x.due(size, "free", handle);
            }
        }
        int stay = all - Integer.bitCount(freed);
        int pages = (stay + Store.PER_PAGE[kind] - 1) / Store.PER_PAGE[kind];
        int otherKind = kind == 3 ? 2 : 3;
        x.due((2 - pages) * Store.PER_PAGE[otherKind], "roomFor", otherKind);
        for (int i = 0; i < (2 - pages) * Store.PER_PAGE[otherKind]; i++) {
            int handle = x.call("allocate", Store.MOST_OF_KIND[otherKind]);
            x.due(Store.MOST_OF_KIND[otherKind], "fill", handle, -1, 0);
        }
        for (int handle = 0; handle < all; handle++) {
            if ((freed >> handle & 1) == 0) {
                x.due(sumOfMarks(handle, size), "sum", handle);
                x.due(Store.markOf(handle, size - 1), "read", handle, size - 1);
            }
        }
    }

    private static int sumOfMarks(int handle, int size) {
        int sum = 0;
        for (int mark : Store.marksOf(handle, size, size)) {
            sum += mark;
        }
        return sum;
    }

    private static void handles0To63() {
        Store x = new Store(12);
        for (int handle = 0; handle < 64; handle++) {
            x.due(handle, handle % 2 == 0 ? "allocate" : "copy", handle % 2 == 0 ? 1 : 0);
        }
        x.due(-2, "allocate", 1);
        x.due(-2, "copy", 0);
        for (int handle = 0; handle < 64; handle++) {
            x.due(1, "size", handle);
            x.due(handle, "next", handle);
        }
        x.due(0, "size", 64);
    }

    private static void eachHandleItsOwn() {
        Store x = Store.withMany(12, 64, 1);
        for (int handle = 0; handle < 64; handle++) {
            x.due(1, "count", Store.markOf(handle, 0));
            x.due(Store.markOf(handle, 0), "read", handle, 0);
        }
    }

    private static void theLeastHandle() {
        Store x = Store.with(12, 1, 3, 5, 9, 2, 4, 8, 16);
        x.due(16, "free", 7);
        x.due(5, "free", 2);
        x.due(4, "free", 5);
        x.due(2, "allocate", 16);
        x.due(5, "copy", 0);
        x.due(7, "allocate", 1);
        x.due(8, "allocate", 1);
        x.due(1, "free", 0);
        x.due(0, "copy", 8);
        x.due(9, "allocate", 3);
        x.due(2, "freeClass", 3);
        x.due(2, "copy", 0);
        x.due(3, "allocate", 2);
        x.due(10, "allocate", 2);
    }

    /** The handle that is free is the one that was named, wherever its object came from. */
    private static void theLeastHandleAfterExchange() {
        Store x = Store.with(4, 1, 9, 1);
        x.due(0, "exchange", 0, 1);
        x.due(9, "free", 0);
        x.due(0, "allocate", 9);
        x.dueMarkedAs(1, 0, 1);
        x.dueMarked(2, 1);
    }

    private static void wordsFrom0ToSize() {
        for (int size = 1; size <= 16; size++) {
            Store x = Store.with(2, size, size);
            for (int word = 0; word < size; word++) {
                x.due(Store.markOf(0, word), "read", 0, word);
                x.due(0, "write", 0, word, -word - 1);
            }
            x.due(-2, "write", 0, -1, 5);
            x.due(-2, "write", 0, size, 5);
            x.due(0, "read", 0, -1);
            x.due(0, "read", 0, size);
            x.due(0, "count", 5);
            x.dueMarked(1, size);
        }
    }

    private static Store mixed() {
        return Store.with(6, 1, 3, 5, 9, 2, 4, 8, 1, 1, 2);
    }

    private static void noQuestionWithoutArgumentsChanges() {
        for (String question : new String[] {"pages", "live", "needed", "faults"}) {
            Store.dueUnchangedBy(TermsTest::mixed, x -> {
                x.call(question);
                x.call(question);
            });
        }
    }

    private static void noQuestionAboutOneNumberChanges() {
        for (String question : new String[] {"size", "liveIn", "roomFor", "sum", "next", "count"}) {
            Store.dueUnchangedBy(TermsTest::mixed, x -> {
                for (int number = -2; number <= 66; number++) {
                    x.call(question, number);
                }
                x.call(question, Store.LEAST);
                x.call(question, Store.GREATEST);
                x.call(question, Store.markOf(2, 3));
            });
        }
    }

    private static void readChangesNothing() {
        Store.dueUnchangedBy(TermsTest::mixed, x -> {
            for (int handle = -1; handle <= 10; handle++) {
                for (int word = -1; word <= 16; word += handle % 2 == 0 ? 1 : 4) {
                    x.call("read", handle, word);
                }
            }
            x.call("read", Store.LEAST, Store.LEAST);
            x.call("read", Store.GREATEST, Store.GREATEST);
        });
    }

    private static Store fullWith64() {
        return Store.withMany(8, 64, 1);
    }

    private static Store full() {
        return Store.with(4, 1, 3, 5, 9, 1);
    }

    private static void refusedAllocateChangesNothing() {
        Store.dueUnchangedBy(TermsTest::mixed, x -> {
            for (int size : Store.NO_SIZE) {
                x.due(-1, "allocate", size);
            }
        });
        Store.dueUnchangedBy(TermsTest::fullWith64, x -> {
            x.due(-2, "allocate", 1);
            x.due(-2, "allocate", 16);
        });
        Store.dueUnchangedBy(TermsTest::full, x -> {
            x.due(-3, "allocate", 9);
            x.due(-3, "allocate", 16);
        });
        Store.dueUnchangedBy(() -> Store.with(2, 9, 16), x -> {
            for (int size = 1; size <= 16; size++) {
                x.due(-3, "allocate", size);
            }
        });
    }

    private static void refusedCopyChangesNothing() {
        Store.dueUnchangedBy(TermsTest::mixed, x -> {
            x.due(-1, "copy", -1);
            x.due(-1, "copy", 10);
            x.due(-1, "copy", 64);
        });
        Store.dueUnchangedBy(TermsTest::fullWith64, x -> {
            x.due(-2, "copy", 0);
            x.due(-2, "copy", 63);
        });
        Store.dueUnchangedBy(TermsTest::full, x -> x.due(-3, "copy", 3));
    }

    private static void refusedResizeChangesNothing() {
        Store.dueUnchangedBy(TermsTest::mixed, x -> {
            x.due(-1, "resize", -1, 4);
            x.due(-1, "resize", 10, 4);
            x.due(-1, "resize", 64, 4);
            for (int size : Store.NO_SIZE) {
                x.due(-2, "resize", 3, size);
            }
        });
        Store.dueUnchangedBy(TermsTest::full, x -> {
            for (int size = 9; size <= 16; size++) {
                x.due(-3, "resize", 0, size);
                x.due(-3, "resize", 4, size);
            }
        });
    }

    private static void refusedFreeChangesNothing() {
        Store.dueUnchangedBy(TermsTest::mixed, x -> {
            for (int handle : Store.NEGATIVE) {
                x.due(-1, "free", handle);
            }
            for (int handle : Store.FROM_64) {
                x.due(-1, "free", handle);
            }
            for (int handle = 10; handle < 64; handle++) {
                x.due(-1, "free", handle);
            }
        });
    }

    private static void refusedFreeClassChangesNothing() {
        Store.dueUnchangedBy(TermsTest::mixed, x -> {
            for (int kind : Store.NO_KIND) {
                x.due(-1, "freeClass", kind);
            }
        });
    }

    private static void refusedWriteChangesNothing() {
        Store.dueUnchangedBy(TermsTest::mixed, x -> {
            for (int word = -3; word < 20; word++) {
                x.due(-1, "write", 10, word, 7);
            }
            x.due(-2, "write", 0, 1, 7);
            x.due(-2, "write", 2, 5, 7);
            x.due(-2, "write", 2, -1, 7);
            x.due(-2, "write", 3, 9, 7);
            x.due(-2, "write", 3, 16, 7);
            x.due(-2, "write", 3, Store.LEAST, 7);
            x.due(-2, "write", 3, Store.GREATEST, 7);
        });
    }

    private static void refusedFillChangesNothing() {
        Store.dueUnchangedBy(TermsTest::mixed, x -> {
            x.due(-1, "fill", -1, 7, 7);
            x.due(-1, "fill", 10, 7, 7);
            x.due(-1, "fill", 64, 7, 7);
        });
    }

    private static void refusedExchangeChangesNothing() {
        Store.dueUnchangedBy(TermsTest::mixed, x -> {
            for (int odd : new int[] {-1, 10, 63, 64, Store.LEAST, Store.GREATEST}) {
                x.due(-1, "exchange", 3, odd);
                x.due(-1, "exchange", odd, 3);
                x.due(-1, "exchange", odd, odd);
            }
        });
    }

    private static void allocateTestsInOrder() {
        for (int size : Store.NO_SIZE) {
            fullWith64().due(-1, "allocate", size);
            Store.with(2, 9, 16).due(-1, "allocate", size);
        }
        for (int size = 1; size <= 16; size++) {
            fullWith64().due(-2, "allocate", size);
        }
    }

    private static void resizeTestsInOrder() {
        for (int size : Store.NO_SIZE) {
            full().due(-1, "resize", 5, size);
            full().due(-1, "resize", size < 0 ? size : 64, size);
            full().due(-2, "resize", 0, size);
        }
        full().due(-1, "resize", 5, 9);
    }

    private static void copyTestsInOrder() {
        fullWith64().due(-1, "copy", 64);
        fullWith64().due(-1, "copy", -1);
        full().due(-1, "copy", 5);
        Store.with(2, 9, 16).due(-1, "copy", 2);
        for (int handle = 0; handle < 64; handle++) {
            fullWith64().due(-2, "copy", handle);
        }
    }

    private static void writeTestsInOrder() {
        Store x = mixed();
        for (int odd : new int[] {-1, 10, 64, Store.LEAST, Store.GREATEST}) {
            x.due(-1, "write", odd, -1, 7);
            x.due(-1, "write", odd, 16, 7);
            x.due(-1, "write", odd, odd, 7);
        }
    }

    private static void goodIfALiveObjectHasIt() {
        Store x = new Store(3);
        x.due(0, "size", 0);
        x.due(0, "allocate", 3);
        x.due(3, "size", 0);
        x.due(3, "free", 0);
        x.due(-1, "free", 0);
        x.due(0, "allocate", 4);
        x.due(1, "copy", 0);
        x.due(2, "freeClass", 1);
        x.due(-1, "free", 0);
        x.due(-1, "free", 1);
        x.due(0, "allocate", 5);
        x.due(-1, "resize", 1, 5);
        x.due(5, "resize", 0, 1);
        x.due(1, "free", 0);
    }

    public static void main(String[] args) {
        Sentence.holds("THE STORE has P pages of 16 words", TermsTest::pagesOf16Words);
        Sentence.holds("An OBJECT has a SIZE of 1 to 16 words", TermsTest::sizes1To16);
        Sentence.holds("each word holds an int", TermsTest::everyIntInEveryWord);
        Sentence.holds("class 0 for the sizes 1 and 2", () -> classOfASize(0, 1, 2));
        Sentence.holds("class 1 for 3 and 4", () -> classOfASize(1, 3, 4));
        Sentence.holds("class 2 for 5 to 8", () -> classOfASize(2, 5, 8));
        Sentence.holds("class 3 for 9 to 16", () -> classOfASize(3, 9, 16));
        Sentence.holds("A page can hold 8 objects of class 0", () -> onePageHolds(0, 8));
        Sentence.holds("4 of class 1", () -> onePageHolds(1, 4));
        Sentence.holds("2 of class 2", () -> onePageHolds(2, 2));
        Sentence.holds("or 1 of class 3", () -> onePageHolds(3, 1));
        Sentence.holds("and only objects of one class", TermsTest::onlyOneClassOnAPage);
        Sentence.holds("rounded up", TermsTest::roundedUp);
        Sentence.holds("summed over the four classes", TermsTest::summedOverTheClasses);
        Sentence.holds("Any objects can live together whose needed pages are at most P",
            TermsTest::anyObjectsCanLiveTogether);
        Sentence.holds("whatever was allocated and freed before", TermsTest::anyObjectsMayStay);
        Sentence.holds("Live objects have HANDLES 0 .. 63", TermsTest::handles0To63);
        Sentence.holds("each its own", TermsTest::eachHandleItsOwn);
        Sentence.holds("the least handle that no live object has", TermsTest::theLeastHandle);
        Sentence.holds("the least handle, after exchange", TermsTest::theLeastHandleAfterExchange);
        Sentence.holds("The words of an object are numbered 0 .. size-1", TermsTest::wordsFrom0ToSize);
        Sentence.holds("No question changes anything: pages, live, needed, faults",
            TermsTest::noQuestionWithoutArgumentsChanges);
        Sentence.holds("No question changes anything: size, liveIn, roomFor, sum, next, count",
            TermsTest::noQuestionAboutOneNumberChanges);
        Sentence.holds("No question changes anything: read", TermsTest::readChangesNothing);
        Sentence.holds("A refused call changes nothing: allocate", TermsTest::refusedAllocateChangesNothing);
        Sentence.holds("A refused call changes nothing: free", TermsTest::refusedFreeChangesNothing);
        Sentence.holds("A refused call changes nothing: resize", TermsTest::refusedResizeChangesNothing);
        Sentence.holds("A refused call changes nothing: copy", TermsTest::refusedCopyChangesNothing);
        Sentence.holds("A refused call changes nothing: freeClass", TermsTest::refusedFreeClassChangesNothing);
        Sentence.holds("A refused call changes nothing: write", TermsTest::refusedWriteChangesNothing);
        Sentence.holds("A refused call changes nothing: fill", TermsTest::refusedFillChangesNothing);
        Sentence.holds("A refused call changes nothing: exchange", TermsTest::refusedExchangeChangesNothing);
        Sentence.holds("the tests are made in the order named: allocate", TermsTest::allocateTestsInOrder);
        Sentence.holds("the tests are made in the order named: resize", TermsTest::resizeTestsInOrder);
        Sentence.holds("the tests are made in the order named: copy", TermsTest::copyTestsInOrder);
        Sentence.holds("the tests are made in the order named: write", TermsTest::writeTestsInOrder);
        Sentence.holds("a handle is good if a live object has it", TermsTest::goodIfALiveObjectHasIt);
        Sentence.finish();
    }
}
