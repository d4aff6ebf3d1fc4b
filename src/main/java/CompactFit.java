/** Objects of words in a store of pages that never wastes more than it must. */
public final class CompactFit {
    private static final int LEAST_PAGES = 2;
    private static final int MOST_PAGES = 12;
    private static final int PAGE_WORDS = 16;
    private static final int STORE_WORDS = 192;
    private static final int HANDLES = 64;
    private static final int MOST_SIZE = 16;
    private static final int KINDS = 4;
    private static final int NONE = -1;

    private final int pageCount;
    private final int[] words = new int[STORE_WORDS];
    // Leads from a place back to its handle, so that an object can be moved; NONE where no object begins.
    private final int[] holder = new int[STORE_WORDS];
    // 0 says that no live object has the handle.
    private final int[] sizeOf = new int[HANDLES];
    private final int[] placeOf = new int[HANDLES];
    // NONE for a page not in use. At most one page of a class is not full, so that none is wasted.
    private final int[] pageKind = new int[MOST_PAGES];
    // Keeps the words of an object that has left its place and has no new one yet.
    private final int[] spare = new int[MOST_SIZE];

    public CompactFit(int pages) {
        int wanted = pages;
        if (wanted < LEAST_PAGES) {
            wanted = LEAST_PAGES;
        }
        if (wanted > MOST_PAGES) {
            wanted = MOST_PAGES;
        }
        pageCount = wanted;
        for (int page = 0; page < MOST_PAGES; page++) {
            pageKind[page] = NONE;
        }
        for (int at = 0; at < STORE_WORDS; at++) {
            holder[at] = NONE;
        }
    }

    public int pages() {
        return pageCount;
    }

    public int allocate(int size) {
        if (!isSize(size)) {
            return -1;
        }
        int handle = leastFreeHandle();
        if (handle == NONE) {
            return -2;
        }
        int kind = kindOf(size);
        if (neededAfter(kind, NONE) > pageCount) {
            return -3;
        }
        settle(handle, size);
        restoreWords(handle, 0);
        return handle;
    }

    public int free(int handle) {
        if (!isGood(handle)) {
            return -1;
        }
        int before = sizeOf[handle];
        vacate(handle);
        return before;
    }

    public int resize(int handle, int size) {
        if (!isGood(handle)) {
            return -1;
        }
        if (!isSize(size)) {
            return -2;
        }
        int before = sizeOf[handle];
        int oldKind = kindOf(before);
        int newKind = kindOf(size);
        if (neededAfter(newKind, oldKind) > pageCount) {
            return -3;
        }
        // The old place goes first: the new one may be on the page that it sets free.
        keepWords(handle);
        vacate(handle);
        settle(handle, size);
        restoreWords(handle, before);
        return before;
    }

    public int copy(int handle) {
        if (!isGood(handle)) {
            return -1;
        }
        int twin = leastFreeHandle();
        if (twin == NONE) {
            return -2;
        }
        int size = sizeOf[handle];
        int kind = kindOf(size);
        if (neededAfter(kind, NONE) > pageCount) {
            return -3;
        }
        settle(twin, size);
        copyWords(placeOf[handle], placeOf[twin], size);
        return twin;
    }

    public int freeClass(int kind) {
        if (!isKind(kind)) {
            return -1;
        }
        int freed = 0;
        for (int handle = 0; handle < HANDLES; handle++) {
            if (isOfKind(handle, kind)) {
                vacate(handle);
                freed++;
            }
        }
        return freed;
    }

    public int read(int handle, int word) {
        if (!isGood(handle) || !isWordOf(handle, word)) {
            return 0;
        }
        return words[placeOf[handle] + word];
    }

    public int write(int handle, int word, int value) {
        if (!isGood(handle)) {
            return -1;
        }
        if (!isWordOf(handle, word)) {
            return -2;
        }
        words[placeOf[handle] + word] = value;
        return 0;
    }

    public int fill(int handle, int value, int step) {
        if (!isGood(handle)) {
            return -1;
        }
        int size = sizeOf[handle];
        int place = placeOf[handle];
        for (int k = 0; k < size; k++) {
            words[place + k] = value + k * step;
        }
        return size;
    }

    public int exchange(int a, int b) {
        if (!isGood(a) || !isGood(b)) {
            return -1;
        }
        int sizeOfA = sizeOf[a];
        int placeOfA = placeOf[a];
        sizeOf[a] = sizeOf[b];
        sizeOf[b] = sizeOfA;
        putAt(a, placeOf[b]);
        putAt(b, placeOfA);
        return 0;
    }

    public int size(int handle) {
        return isGood(handle) ? sizeOf[handle] : 0;
    }

    public int live() {
        int alive = 0;
        for (int handle = 0; handle < HANDLES; handle++) {
            if (sizeOf[handle] > 0) {
                alive++;
            }
        }
        return alive;
    }

    public int liveIn(int kind) {
        return isKind(kind) ? objectsOf(kind) : -1;
    }

    public int needed() {
        return neededAfter(NONE, NONE);
    }

    public int roomFor(int kind) {
        if (!isKind(kind)) {
            return -1;
        }
        int objects = objectsOf(kind);
        int othersPages = neededAfter(NONE, NONE) - pagesFor(objects, kind);
        return (pageCount - othersPages) * perPage(kind) - objects;
    }

    public int sum(int handle) {
        if (!isGood(handle)) {
            return 0;
        }
        int total = 0;
        int size = sizeOf[handle];
        int place = placeOf[handle];
        for (int k = 0; k < size; k++) {
            total += words[place + k];
        }
        return total;
    }

    public int next(int from) {
        int first = from < 0 ? 0 : from;
        for (int handle = first; handle < HANDLES; handle++) {
            if (sizeOf[handle] > 0) {
                return handle;
            }
        }
        return -1;
    }

    public int count(int value) {
        int found = 0;
        for (int handle = 0; handle < HANDLES; handle++) {
            int size = sizeOf[handle];
            int place = placeOf[handle];
            for (int k = 0; k < size; k++) {
                if (words[place + k] == value) {
                    found++;
                }
            }
        }
        return found;
    }

    public int faults() {
        int faulty = 0;
        for (int page = 0; page < pageCount; page++) {
            if (isFaulty(page)) {
                faulty++;
            }
        }
        return faulty;
    }

    private static boolean isSize(int size) {
        return size >= 1 && size <= MOST_SIZE;
    }

    private static boolean isKind(int kind) {
        return kind >= 0 && kind < KINDS;
    }

    private static int kindOf(int size) {
        if (size <= 2) {
            return 0;
        }
        if (size <= 4) {
            return 1;
        }
        return size <= 8 ? 2 : 3;
    }

    private static int slotWords(int kind) {
        return 2 << kind;
    }

    private static int perPage(int kind) {
        return 8 >> kind;
    }

    // Slots fill a page without rest, so rounding up their words rounds up their pages.
    private static int pagesFor(int objects, int kind) {
        return (objects * slotWords(kind) + PAGE_WORDS - 1) / PAGE_WORDS;
    }

    private boolean isGood(int handle) {
        return handle >= 0 && handle < HANDLES && sizeOf[handle] > 0;
    }

    private boolean isWordOf(int handle, int word) {
        return word >= 0 && word < sizeOf[handle];
    }

    private boolean isOfKind(int handle, int kind) {
        int size = sizeOf[handle];
        return size > 0 && kindOf(size) == kind;
    }

    private int leastFreeHandle() {
        for (int handle = 0; handle < HANDLES; handle++) {
            if (sizeOf[handle] == 0) {
                return handle;
            }
        }
        return NONE;
    }

    private int objectsOf(int kind) {
        int objects = 0;
        for (int handle = 0; handle < HANDLES; handle++) {
            if (isOfKind(handle, kind)) {
                objects++;
            }
        }
        return objects;
    }

    // NONE stands for no object, so that one reckoning serves allocate, copy, resize and needed.
    private int neededAfter(int coming, int going) {
        int total = 0;
        for (int kind = 0; kind < KINDS; kind++) {
            int objects = objectsOf(kind);
            if (kind == coming) {
                objects++;
            }
            if (kind == going) {
                objects--;
            }
            total += pagesFor(objects, kind);
        }
        return total;
    }

    // The caller has seen that the pages suffice, so its class has a hole or a page is unused.
    private void settle(int handle, int size) {
        int kind = kindOf(size);
        int page = partPage(kind, NONE);
        if (page == NONE) {
            page = unusedPage();
        }
        // Never so while no class has two pages that aren't full; an index is looked at all the same.
        if (page == NONE) {
            return;
        }
        pageKind[page] = kind;
        sizeOf[handle] = size;
        int hole = holeOn(page, kind);
        putAt(handle, hole);
    }

    // The gap is closed at once: a second page that is not full would be wasted.
    private void vacate(int handle) {
        int hole = placeOf[handle];
        int page = hole / PAGE_WORDS;
        sizeOf[handle] = 0;
        holder[hole] = NONE;
        int other = partPage(pageKind[page], page);
        if (other != NONE) {
            moveOneFrom(other, hole);
            page = other;
        }
        if (heldOn(page) == 0) {
            pageKind[page] = NONE;
        }
    }

    private void keepWords(int handle) {
        int size = sizeOf[handle];
        int place = placeOf[handle];
        for (int k = 0; k < size; k++) {
            spare[k] = words[place + k];
        }
    }

    // The place may have been another object's, so words that were not kept are cleared.
    private void restoreWords(int handle, int kept) {
        int size = sizeOf[handle];
        int place = placeOf[handle];
        for (int k = 0; k < size; k++) {
            words[place + k] = k < kept ? spare[k] : 0;
        }
    }

    private void moveOneFrom(int page, int hole) {
        int start = page * PAGE_WORDS;
        for (int at = start; at < start + PAGE_WORDS; at++) {
            int handle = holder[at];
            if (handle != NONE) {
                copyWords(at, hole, sizeOf[handle]);
                holder[at] = NONE;
                putAt(handle, hole);
                return;
            }
        }
    }

    private void putAt(int handle, int place) {
        placeOf[handle] = place;
        holder[place] = handle;
    }

    private void copyWords(int source, int target, int length) {
        for (int k = 0; k < length; k++) {
            words[target + k] = words[source + k];
        }
    }

    private int heldOn(int page) {
        int start = page * PAGE_WORDS;
        int held = 0;
        for (int at = start; at < start + PAGE_WORDS; at++) {
            if (holder[at] != NONE) {
                held++;
            }
        }
        return held;
    }

    private boolean isPart(int page, int kind) {
        return pageKind[page] == kind && heldOn(page) < perPage(kind);
    }

    // One page can be left out of view, because a gap is not filled from its own page.
    private int partPage(int kind, int except) {
        for (int page = 0; page < pageCount; page++) {
            if (page != except && isPart(page, kind)) {
                return page;
            }
        }
        return NONE;
    }

    private int unusedPage() {
        for (int page = 0; page < pageCount; page++) {
            if (pageKind[page] == NONE) {
                return page;
            }
        }
        return NONE;
    }

    private int holeOn(int page, int kind) {
        int start = page * PAGE_WORDS;
        int step = slotWords(kind);
        int slots = perPage(kind);
        int hole = start;
        for (int slot = 0; slot < slots; slot++) {
            hole = start + slot * step;
            if (holder[hole] == NONE) {
                break;
            }
        }
        return hole;
    }

    private boolean isFaulty(int page) {
        int kind = pageKind[page];
        if (kind == NONE) {
            return false;
        }
        if (heldOn(page) == 0 || holdsOtherKind(page, kind)) {
            return true;
        }
        int firstPart = partPage(kind, NONE);
        return isPart(page, kind) && firstPart != page;
    }

    private boolean holdsOtherKind(int page, int kind) {
        int start = page * PAGE_WORDS;
        for (int at = start; at < start + PAGE_WORDS; at++) {
            int handle = holder[at];
            if (handle != NONE && !isOfKind(handle, kind)) {
                return true;
            }
        }
        return false;
    }
}
