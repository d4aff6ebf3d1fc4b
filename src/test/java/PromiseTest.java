/** For each promise of the document: ordinary inputs, the edges that it names, and wrong inputs. */
public final class PromiseTest {
    private static final int[] ODD_INTS = {
        Integer.MIN_VALUE, Integer.MIN_VALUE + 1, -65, -64, -17, -16, -3, -2, -1, 64, 65, 128, 1 << 20, Integer.MAX_VALUE
    };
    private static int wrong = 0;

    private static void due(int promise, String what, long got, long want) {
        if (got != want) {
            wrong++;
            System.out.println("promise " + promise + ": " + what + " answered " + got + ", due is " + want);
        }
    }

    private static int classOf(int size) {
        return size <= 2 ? 0 : size <= 4 ? 1 : size <= 8 ? 2 : 3;
    }

    private static int perPage(int kind) {
        return new int[] {8, 4, 2, 1}[kind];
    }

    /** An object whose handles 0, 1, .. have these sizes and whose words are told apart by handle and number. */
    private static CompactFit with(int pages, int... sizes) {
        CompactFit x = new CompactFit(pages);
        for (int handle = 0; handle < sizes.length; handle++) {
            due(3, "allocate(" + sizes[handle] + ") in set-up", x.allocate(sizes[handle]), handle);
            due(10, "fill in set-up", x.fill(handle, 1000 * (handle + 1), 1), sizes[handle]);
        }
        return x;
    }

    private static void dueWords(int promise, CompactFit x, int handle, int... words) {
        due(promise, "size(" + handle + ")", x.size(handle), words.length);
        for (int k = 0; k < words.length; k++) {
            due(promise, "read(" + handle + ", " + k + ")", x.read(handle, k), words[k]);
        }
    }

    private static void dueUntouched(int promise, CompactFit x, int handle, int size) {
        int[] words = new int[size];
        for (int k = 0; k < size; k++) {
            words[k] = 1000 * (handle + 1) + k;
        }
        dueWords(promise, x, handle, words);
    }

    /** 64 live objects of size 1 in 12 pages, of which they need 8. */
    private static CompactFit crowded() {
        return with(12, new int[] {
            1, 1, 1, 1, 1, 1, 1, 1, 1, 1, 1, 1, 1, 1, 1, 1, 1, 1, 1, 1, 1, 1, 1, 1, 1, 1, 1, 1, 1, 1, 1, 1,
            1, 1, 1, 1, 1, 1, 1, 1, 1, 1, 1, 1, 1, 1, 1, 1, 1, 1, 1, 1, 1, 1, 1, 1, 1, 1, 1, 1, 1, 1, 1, 1
        });
    }

    private static void promises1And2() {
        int[] asked = {Integer.MIN_VALUE, -1, 0, 1, 2, 3, 7, 11, 12, 13, 64, Integer.MAX_VALUE};
        int[] want = {2, 2, 2, 2, 2, 3, 7, 11, 12, 12, 12, 12};
        for (int i = 0; i < asked.length; i++) {
            CompactFit x = new CompactFit(asked[i]);
            due(2, "pages() after " + asked[i], x.pages(), want[i]);
            due(1, "live() when new", x.live(), 0);
            due(1, "needed() when new", x.needed(), 0);
            due(1, "next(0) when new", x.next(0), -1);
            due(1, "count(0) when new", x.count(0), 0);
            due(1, "faults() when new", x.faults(), 0);
            for (int kind = 0; kind < 4; kind++) {
                due(1, "liveIn when new", x.liveIn(kind), 0);
                due(1, "roomFor when new", x.roomFor(kind), want[i] * perPage(kind));
            }
            for (int page = 0; page < want[i]; page++) {
                due(1, "allocate(16) of page " + page, x.allocate(16), page);
            }
            due(1, "allocate(16) beyond P", x.allocate(16), -3);
            due(2, "pages() when full", x.pages(), want[i]);
        }
    }

    private static void promise3() {
        CompactFit x = new CompactFit(4);
        for (int size : ODD_INTS) {
            due(3, "allocate(" + size + ")", x.allocate(size), -1);
        }
        due(3, "allocate(0)", x.allocate(0), -1);
        due(3, "allocate(17)", x.allocate(17), -1);
        due(3, "live() after refusals", x.live(), 0);
        for (int size = 1; size <= 16; size++) {
            CompactFit y = new CompactFit(2);
            int fit = 2 * perPage(classOf(size));
            for (int i = 0; i < fit; i++) {
                due(3, "allocate(" + size + ")", y.allocate(size), i);
            }
            due(3, "allocate(" + size + ") when full", y.allocate(size), -3);
            due(3, "live() when full", y.live(), fit);
            due(3, "count(0) when full", y.count(0), fit * size);
            due(3, "allocate(0) when full", y.allocate(0), -1);
        }
        x = with(4, 3, 16, 1, 5);
        due(3, "free(1)", x.free(1), 16);
        due(3, "allocate(13) at the least handle", x.allocate(13), 1);
        dueWords(3, x, 1, new int[13]);
        due(3, "free(2)", x.free(2), 1);
        due(3, "free(0)", x.free(0), 3);
        due(3, "allocate(6) at the least handle", x.allocate(6), 0);
        dueWords(3, x, 0, new int[6]);
        dueUntouched(3, x, 3, 5);
        x = crowded();
        due(3, "allocate(1) of 65", x.allocate(1), -2);
        due(3, "allocate(16) of 65", x.allocate(16), -2);
        due(3, "allocate(17) of 65", x.allocate(17), -1);
        due(3, "live() of 64", x.live(), 64);
        due(3, "free(63)", x.free(63), 1);
        due(3, "allocate(16) after free", x.allocate(16), 63);
        CompactFit tight = new CompactFit(8);
        for (int i = 0; i < 64; i++) {
            due(3, "allocate(2)", tight.allocate(2), i);
        }
        due(3, "allocate(2): 64 come before pages", tight.allocate(2), -2);
    }

    private static void promise4() {
        CompactFit x = with(6, 2, 4, 8, 16, 1, 3);
        for (int handle : ODD_INTS) {
            due(4, "free(" + handle + ")", x.free(handle), -1);
        }
        due(4, "free(6)", x.free(6), -1);
        due(4, "free(63)", x.free(63), -1);
        due(4, "live() after refusals", x.live(), 6);
        due(4, "free(3)", x.free(3), 16);
        due(4, "free(3) again", x.free(3), -1);
        due(4, "size(3)", x.size(3), 0);
        due(4, "needed()", x.needed(), 3);
        due(4, "free(0)", x.free(0), 2);
        due(4, "free(5)", x.free(5), 3);
        due(4, "live()", x.live(), 3);
        dueUntouched(4, x, 1, 4);
        dueUntouched(4, x, 2, 8);
        dueUntouched(4, x, 4, 1);
        everyHoleIsClosed();
    }

    /** Every choice of survivors of two full pages leaves them whole and wastes no page. */
    private static void everyHoleIsClosed() {
        for (int kind = 0; kind < 3; kind++) {
            int per = perPage(kind);
            int size = 16 / per;
            for (int freed = 0; freed < 1 << (2 * per); freed += kind == 0 ? 37 : 1) {
                CompactFit x = new CompactFit(2);
                for (int i = 0; i < 2 * per; i++) {
                    x.allocate(size);
                    x.fill(i, 1000 * (i + 1), 1);
                }
                int survivors = 2 * per;
                for (int i = 0; i < 2 * per; i++) {
                    if ((freed >> i & 1) == 1) {
                        due(4, "free(" + i + ")", x.free(i), size);
                        survivors--;
                        due(20, "faults() after free", x.faults(), 0);
                    }
                }
                due(4, "needed()", x.needed(), (survivors + per - 1) / per);
                due(4, "allocate(16)", x.allocate(16) >= 0 ? 1 : 0, survivors <= per ? 1 : 0);
                for (int i = 0; i < 2 * per; i++) {
                    if ((freed >> i & 1) == 0) {
                        dueUntouched(4, x, i, size);
                    }
                }
            }
        }
    }

    private static void promise5() {
        CompactFit x = with(3, 5, 2);
        for (int odd : ODD_INTS) {
            due(5, "resize(" + odd + ", 4)", x.resize(odd, 4), -1);
            due(5, "resize(0, " + odd + ")", x.resize(0, odd), -2);
        }
        due(5, "resize(2, 4)", x.resize(2, 4), -1);
        due(5, "resize(2, 17): the handle comes first", x.resize(2, 17), -1);
        due(5, "resize(0, 0)", x.resize(0, 0), -2);
        due(5, "resize(0, 17)", x.resize(0, 17), -2);
        dueUntouched(5, x, 0, 5);
        for (int before = 1; before <= 16; before++) {
            for (int after = 1; after <= 16; after++) {
                resizeOnce(before, after);
            }
        }
        x = with(2, 16, 1, 2);
        due(5, "resize(1, 3) without a page", x.resize(1, 3), -3);
        due(5, "resize(1, 17): the size comes before pages", x.resize(1, 17), -2);
        dueUntouched(5, x, 1, 1);
        due(5, "resize(1, 2) in its class", x.resize(1, 2), 1);
        dueWords(5, x, 1, 2000, 0);
        due(5, "resize(0, 8) on its own page", x.resize(0, 8), 16);
        dueUntouched(5, x, 0, 8);
        due(5, "resize(0, 1) joins class 0", x.resize(0, 1), 8);
        due(5, "needed()", x.needed(), 1);
        dueWords(5, x, 0, 1000);
        dueUntouched(5, x, 2, 2);
        x = crowded();
        due(5, "resize(63, 16) of 64", x.resize(63, 16), 1);
        due(5, "resize(0, 9) of 64", x.resize(0, 9), 1);
        due(5, "needed()", x.needed(), 10);
    }

    /** The store is full, so that a change of class has only the page that the object leaves. */
    private static void resizeOnce(int before, int after) {
        CompactFit x = with(2, before, 16);
        String call = "resize(0, " + after + ") from " + before;
        due(5, call, x.resize(0, after), before);
        int[] words = new int[after];
        for (int k = 0; k < after && k < before; k++) {
            words[k] = 1000 + k;
        }
        dueWords(5, x, 0, words);
        dueUntouched(5, x, 1, 16);
        due(5, "needed() after " + call, x.needed(), 2);
        due(20, "faults() after " + call, x.faults(), 0);
        due(5, "resize(0, 16) after " + call, x.resize(0, 16), after);
        int[] wide = new int[16];
        System.arraycopy(words, 0, wide, 0, after);
        dueWords(5, x, 0, wide);
    }

    private static void promise6() {
        CompactFit x = with(3, 7, 2, 16);
        for (int handle : ODD_INTS) {
            due(6, "copy(" + handle + ")", x.copy(handle), -1);
        }
        due(6, "copy(3)", x.copy(3), -1);
        due(6, "copy(2) without a page", x.copy(2), -3);
        due(6, "live() after refusals", x.live(), 3);
        due(6, "copy(0)", x.copy(0), 3);
        dueWords(6, x, 3, 1000, 1001, 1002, 1003, 1004, 1005, 1006);
        due(6, "write to the copy", x.write(3, 2, 5), 0);
        dueUntouched(6, x, 0, 7);
        due(6, "copy(0) without a page", x.copy(0), -3);
        due(6, "free(0)", x.free(0), 7);
        due(6, "copy(1) at the least handle", x.copy(1), 0);
        dueWords(6, x, 0, 2000, 2001);
        dueWords(6, x, 3, 1000, 1001, 5, 1003, 1004, 1005, 1006);
        x = crowded();
        due(6, "copy(0) of 65", x.copy(0), -2);
        due(6, "copy(64): the handle comes first", x.copy(64), -1);
        due(6, "resize(0, 16)", x.resize(0, 16), 1);
        for (int i = 0; i < 3; i++) {
            due(6, "resize", x.resize(1 + i, 16), 1);
        }
        due(6, "copy(0): 64 come before pages", x.copy(0), -2);
    }

    private static void promise7() {
        CompactFit x = with(8, 1, 3, 5, 9, 2, 4, 8, 16, 1);
        for (int kind : ODD_INTS) {
            due(7, "freeClass(" + kind + ")", x.freeClass(kind), -1);
        }
        due(7, "freeClass(4)", x.freeClass(4), -1);
        due(7, "live() after refusals", x.live(), 9);
        due(7, "freeClass(1)", x.freeClass(1), 2);
        due(7, "freeClass(1) again", x.freeClass(1), 0);
        due(7, "live()", x.live(), 7);
        due(7, "size(1)", x.size(1), 0);
        due(7, "size(5)", x.size(5), 0);
        due(7, "freeClass(3)", x.freeClass(3), 2);
        due(7, "freeClass(0)", x.freeClass(0), 3);
        dueUntouched(7, x, 2, 5);
        dueUntouched(7, x, 6, 8);
        due(7, "needed()", x.needed(), 1);
        due(7, "freeClass(2)", x.freeClass(2), 2);
        due(7, "live()", x.live(), 0);
        due(7, "allocate(16) after all", x.allocate(16), 0);
        x = crowded();
        due(7, "freeClass(0) of 64", x.freeClass(0), 64);
        due(7, "needed() after 64", x.needed(), 0);
        due(7, "roomFor(3) after 64", x.roomFor(3), 12);
    }

    private static void promises8And9() {
        CompactFit x = with(4, 6, 16, 1);
        for (int odd : ODD_INTS) {
            due(8, "read(" + odd + ", 0)", x.read(odd, 0), 0);
            due(8, "read(0, " + odd + ")", x.read(0, odd), 0);
            due(9, "write(" + odd + ", 0, 7)", x.write(odd, 0, 7), -1);
            due(9, "write(0, " + odd + ", 7)", x.write(0, odd, 7), -2);
            due(9, "write(" + odd + ", " + odd + ", 7)", x.write(odd, odd, 7), -1);
        }
        due(8, "read(3, 0)", x.read(3, 0), 0);
        due(8, "read(0, 5)", x.read(0, 5), 1005);
        due(8, "read(0, 6)", x.read(0, 6), 0);
        due(8, "read(2, 1)", x.read(2, 1), 0);
        due(9, "write(3, 0, 7)", x.write(3, 0, 7), -1);
        due(9, "write(0, 6, 7)", x.write(0, 6, 7), -2);
        due(9, "write(1, 16, 7)", x.write(1, 16, 7), -2);
        due(9, "count(7) after refusals", x.count(7), 0);
        due(9, "write(1, 15, MIN)", x.write(1, 15, Integer.MIN_VALUE), 0);
        due(8, "read(1, 15)", x.read(1, 15), Integer.MIN_VALUE);
        due(9, "write(1, 0, MAX)", x.write(1, 0, Integer.MAX_VALUE), 0);
        due(8, "read(1, 0)", x.read(1, 0), Integer.MAX_VALUE);
        due(8, "read(1, 1)", x.read(1, 1), 2001);
        dueUntouched(9, x, 0, 6);
        dueUntouched(9, x, 2, 1);
        due(9, "free(1)", x.free(1), 16);
        due(8, "read(1, 0) of a freed one", x.read(1, 0), 0);
        due(9, "write(1, 0, 7) of a freed one", x.write(1, 0, 7), -1);
    }

    private static void promise10() {
        CompactFit x = with(3, 4, 3, 16);
        for (int odd : ODD_INTS) {
            due(10, "fill(" + odd + ", 1, 1)", x.fill(odd, 1, 1), -1);
        }
        due(10, "fill(3, 1, 1)", x.fill(3, 1, 1), -1);
        due(10, "fill(0, -5, 3)", x.fill(0, -5, 3), 4);
        dueWords(10, x, 0, -5, -2, 1, 4);
        dueUntouched(10, x, 1, 3);
        due(10, "fill(0, 9, 0)", x.fill(0, 9, 0), 4);
        dueWords(10, x, 0, 9, 9, 9, 9);
        due(10, "fill(1, MAX, 1)", x.fill(1, Integer.MAX_VALUE, 1), 3);
        dueWords(10, x, 1, Integer.MAX_VALUE, Integer.MIN_VALUE, Integer.MIN_VALUE + 1);
        due(10, "fill(1, 0, MIN)", x.fill(1, 0, Integer.MIN_VALUE), 3);
        dueWords(10, x, 1, 0, Integer.MIN_VALUE, 0);
        dueUntouched(10, x, 2, 16);
    }

    private static void promise11() {
        CompactFit x = with(4, 2, 9, 2, 1);
        for (int odd : ODD_INTS) {
            due(11, "exchange(0, " + odd + ")", x.exchange(0, odd), -1);
            due(11, "exchange(" + odd + ", 0)", x.exchange(odd, 0), -1);
            due(11, "exchange(" + odd + ", " + odd + ")", x.exchange(odd, odd), -1);
        }
        due(11, "exchange(0, 4)", x.exchange(0, 4), -1);
        due(11, "exchange(4, 0)", x.exchange(4, 0), -1);
        dueUntouched(11, x, 0, 2);
        due(11, "exchange(1, 1)", x.exchange(1, 1), 0);
        dueUntouched(11, x, 1, 9);
        due(11, "exchange(0, 1)", x.exchange(0, 1), 0);
        dueWords(11, x, 1, 1000, 1001);
        dueWords(11, x, 0, 2000, 2001, 2002, 2003, 2004, 2005, 2006, 2007, 2008);
        due(11, "exchange(2, 3)", x.exchange(2, 3), 0);
        dueWords(11, x, 2, 4000);
        dueWords(11, x, 3, 3000, 3001);
        due(11, "live()", x.live(), 4);
        due(11, "needed()", x.needed(), 2);
        due(11, "faults()", x.faults(), 0);
        due(11, "free(0)", x.free(0), 9);
        due(11, "needed()", x.needed(), 1);
        due(11, "free(1)", x.free(1), 2);
        dueWords(11, x, 2, 4000);
        dueWords(11, x, 3, 3000, 3001);
        due(11, "resize(2, 2)", x.resize(2, 2), 1);
        dueWords(11, x, 2, 4000, 0);
    }

    private static void promises12To14() {
        CompactFit x = new CompactFit(12);
        int[] inClass = new int[4];
        for (int size = 1; size <= 16; size++) {
            int handle = x.allocate(size);
            due(3, "allocate(" + size + ")", handle, size - 1);
            inClass[classOf(size)]++;
            due(12, "size(" + handle + ")", x.size(handle), size);
            due(13, "live()", x.live(), size);
            for (int kind = 0; kind < 4; kind++) {
                due(14, "liveIn(" + kind + ")", x.liveIn(kind), inClass[kind]);
            }
        }
        due(13, "live() of all sizes", x.live(), 16);
        due(12, "size(16)", x.size(16), 0);
        due(14, "liveIn(4)", x.liveIn(4), -1);
        for (int odd : ODD_INTS) {
            due(12, "size(" + odd + ")", x.size(odd), 0);
            due(14, "liveIn(" + odd + ")", x.liveIn(odd), -1);
        }
        due(13, "live() of 64", crowded().live(), 64);
        due(14, "liveIn(0) of 64", crowded().liveIn(0), 64);
    }

    private static void promises15And16() {
        int[] largest = {2, 4, 8, 16};
        for (int kind = 0; kind < 4; kind++) {
            CompactFit x = new CompactFit(5);
            int per = perPage(kind);
            for (int i = 0; i < 5 * per; i++) {
                due(15, "needed() with " + i + " of class " + kind, x.needed(), (i + per - 1) / per);
                for (int other = 0; other < 4; other++) {
                    int room = other == kind ? 5 * per - i : (5 - (i + per - 1) / per) * perPage(other);
                    due(16, "roomFor(" + other + ") with " + i + " of class " + kind, x.roomFor(other), room);
                }
                x.allocate(largest[kind]);
            }
            due(15, "needed() when full", x.needed(), 5);
            due(16, "roomFor when full", x.roomFor(kind), 0);
        }
        CompactFit x = with(7, 1, 3, 5, 9);
        due(15, "needed() of one each", x.needed(), 4);
        due(16, "roomFor(0)", x.roomFor(0), 31);
        due(16, "roomFor(1)", x.roomFor(1), 15);
        due(16, "roomFor(2)", x.roomFor(2), 7);
        due(16, "roomFor(3)", x.roomFor(3), 3);
        due(16, "roomFor(4)", x.roomFor(4), -1);
        for (int odd : ODD_INTS) {
            due(16, "roomFor(" + odd + ")", x.roomFor(odd), -1);
        }
        due(16, "roomFor(0) beyond 64 objects", new CompactFit(12).roomFor(0), 96);
        due(16, "roomFor(0) with 64 objects", crowded().roomFor(0), 32);
    }

    private static void promise17() {
        CompactFit x = with(3, 16, 3, 1);
        due(17, "sum(0)", x.sum(0), 16 * 1000 + 120);
        due(17, "sum(1)", x.sum(1), 6003);
        due(17, "sum(2)", x.sum(2), 3000);
        due(17, "sum(3)", x.sum(3), 0);
        for (int odd : ODD_INTS) {
            due(17, "sum(" + odd + ")", x.sum(odd), 0);
        }
        x.fill(1, Integer.MAX_VALUE, 0);
        due(17, "sum(1) wrapping", x.sum(1), Integer.MAX_VALUE - 2);
        x.resize(1, 2);
        due(17, "sum(1) after resize", x.sum(1), -2);
        x.free(0);
        due(17, "sum(0) of a freed one", x.sum(0), 0);
    }

    private static void promise18() {
        CompactFit x = with(3, 1, 1, 1, 1, 1);
        x.free(0);
        x.free(2);
        x.free(3);
        due(18, "next(MIN)", x.next(Integer.MIN_VALUE), 1);
        due(18, "next(-1)", x.next(-1), 1);
        due(18, "next(0)", x.next(0), 1);
        due(18, "next(1)", x.next(1), 1);
        due(18, "next(2)", x.next(2), 4);
        due(18, "next(4)", x.next(4), 4);
        due(18, "next(5)", x.next(5), -1);
        due(18, "next(63)", x.next(63), -1);
        due(18, "next(64)", x.next(64), -1);
        due(18, "next(MAX)", x.next(Integer.MAX_VALUE), -1);
        x = crowded();
        due(18, "next(63) of 64", x.next(63), 63);
        due(18, "next(64) of 64", x.next(64), -1);
    }

    private static void promise19() {
        CompactFit x = new CompactFit(4);
        x.allocate(16);
        x.allocate(3);
        x.allocate(1);
        due(19, "count(0)", x.count(0), 20);
        x.fill(0, 5, 0);
        x.write(1, 1, 5);
        due(19, "count(5)", x.count(5), 17);
        due(19, "count(0)", x.count(0), 3);
        x.resize(0, 10);
        due(19, "count(5) after a smaller size", x.count(5), 11);
        x.resize(0, 12);
        due(19, "count(0) after a greater size", x.count(0), 5);
        x.copy(1);
        due(19, "count(5) after copy", x.count(5), 12);
        x.free(0);
        due(19, "count(5) after free", x.count(5), 2);
        x.write(2, 0, Integer.MIN_VALUE);
        due(19, "count(MIN)", x.count(Integer.MIN_VALUE), 1);
        due(19, "count(MAX)", x.count(Integer.MAX_VALUE), 0);
        x.freeClass(0);
        x.freeClass(1);
        due(19, "count(0) of none", x.count(0), 0);
    }

    private static void promise20() {
        CompactFit x = new CompactFit(12);
        for (int i = 0; i < 40; i++) {
            x.allocate(1 + i % 4);
            due(20, "faults() after allocate", x.faults(), 0);
        }
        for (int i = 0; i < 40; i += 3) {
            x.free(i);
            due(20, "faults() after free", x.faults(), 0);
        }
        for (int i = 1; i < 40; i += 3) {
            x.resize(i, 1 + (i + 2) % 4);
            due(20, "faults() after resize", x.faults(), 0);
            x.exchange(i, i + 1);
            due(20, "faults() after exchange", x.faults(), 0);
        }
        x.freeClass(1);
        due(20, "faults() after freeClass", x.faults(), 0);
    }

    public static void main(String[] args) {
        promises1And2();
        promise3();
        promise4();
        promise5();
        promise6();
        promise7();
        promises8And9();
        promise10();
        promise11();
        promises12To14();
        promises15And16();
        promise17();
        promise18();
        promise19();
        promise20();
        System.out.println(wrong == 0 ? "all promises hold" : wrong + " answers are not as due");
        if (wrong != 0) {
            System.exit(1);
        }
    }
}
