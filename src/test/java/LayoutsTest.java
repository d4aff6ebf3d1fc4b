import java.lang.reflect.Field;
import java.util.ArrayDeque;
import java.util.ArrayList;
import java.util.Deque;
import java.util.HashSet;
import java.util.List;
import java.util.Set;
import java.util.function.Consumer;

/**
 * Goes from an empty store of two pages to every layout of its pages that calls can bring about, and makes each change
 * there. Which words are taken by objects of which class is the layout; which handles they have makes no other one.
 */
public final class LayoutsTest {
    private static final int PAGES = 2;
    private static final int FEWEST = 10000;
    private static final List<Field> ARRAYS = new ArrayList<>();

    private final CompactFit x = new CompactFit(PAGES);
    private final Model model;

    private LayoutsTest(Model model) {
        this.model = model;
    }

    private static void findArrays() {
        for (Field field : CompactFit.class.getDeclaredFields()) {
            if (field.getType() == int[].class) {
                field.setAccessible(true);
                ARRAYS.add(field);
            }
        }
    }

    private static int[] inside(Field array, CompactFit x) {
        try {
            return (int[]) array.get(x);
        } catch (IllegalAccessException e) {
            throw new IllegalStateException(e);
        }
    }

    private int[] inside(String name) {
        for (Field array : ARRAYS) {
            if (array.getName().equals(name)) {
                return inside(array, x);
            }
        }
        throw new IllegalStateException("no array " + name);
    }

    private LayoutsTest twin() {
        LayoutsTest other = new LayoutsTest(model.twin());
        for (Field array : ARRAYS) {
            int[] from = inside(array, x);
            System.arraycopy(from, 0, inside(array, other.x), 0, from.length);
        }
        return other;
    }

    private String layout() {
        StringBuilder layout = new StringBuilder();
        for (int kind : inside("pageKind")) {
            layout.append(kind).append(' ');
        }
        for (int handle : inside("holder")) {
            layout.append(handle < 0 ? '.' : 'x');
        }
        return layout.toString();
    }

    /** Each word of each object differs from all others, so that none can be lost unseen. */
    private void mark() {
        for (int handle = 0; handle < Model.HANDLES; handle++) {
            int size = x.fill(handle, Store.markOf(handle, 0), 1);
            Sentence.due("fill", size, model.fill(handle, Store.markOf(handle, 0), 1));
        }
    }

    private void dueAsTheModel() {
        for (int handle = 0; handle < Model.HANDLES; handle++) {
            int size = model.size(handle);
            Sentence.due("size", x.size(handle), size);
            for (int word = 0; word < size; word++) {
                Sentence.due("read", x.read(handle, word), model.read(handle, word));
            }
        }
        for (int kind = 0; kind < 4; kind++) {
            Sentence.due("roomFor", x.roomFor(kind), model.roomFor(kind));
        }
        Sentence.due("needed", x.needed(), model.needed());
        Sentence.due("faults", x.faults(), 0);
    }

    private LayoutsTest after(Consumer<LayoutsTest> change) {
        LayoutsTest other = twin();
        change.accept(other);
        other.dueAsTheModel();
        return other;
    }

    private List<LayoutsTest> afterEachChange() {
        List<LayoutsTest> reached = new ArrayList<>();
        for (int kind = 0; kind < 4; kind++) {
            int each = kind;
            int size = Store.MOST_OF_KIND[kind];
            reached.add(after(s -> Sentence.due("allocate", s.x.allocate(size), s.model.allocate(size))));
            reached.add(after(s -> Sentence.due("freeClass", s.x.freeClass(each), s.model.freeClass(each))));
        }
        for (int handle = model.next(0); handle >= 0; handle = model.next(handle + 1)) {
            reached.addAll(afterEachChangeOf(handle));
        }
        return reached;
    }

    private List<LayoutsTest> afterEachChangeOf(int handle) {
        List<LayoutsTest> reached = new ArrayList<>();
        reached.add(after(s -> Sentence.due("free", s.x.free(handle), s.model.free(handle))));
        reached.add(after(s -> Sentence.due("copy", s.x.copy(handle), s.model.copy(handle))));
        for (int size : Store.MOST_OF_KIND) {
            reached.add(after(s -> Sentence.due("resize", s.x.resize(handle, size), s.model.resize(handle, size))));
        }
        int other = model.next(handle + 1);
        reached.add(after(s -> Sentence.due("exchange", s.x.exchange(handle, other), s.model.exchange(handle, other))));
        return reached;
    }

    private static void eachChangeInEachLayout() {
        Set<String> seen = new HashSet<>();
        Deque<LayoutsTest> open = new ArrayDeque<>();
        open.add(new LayoutsTest(new Model(PAGES)));
        seen.add(open.peek().layout());
        while (!open.isEmpty()) {
            LayoutsTest store = open.remove();
            store.mark();
            for (LayoutsTest next : store.afterEachChange()) {
                if (seen.add(next.layout())) {
                    open.add(next);
                }
            }
        }
        // With fewer, the layout is no longer seen through these fields, and the test tests little.
        if (seen.size() < FEWEST) {
            Sentence.wrong("only " + seen.size() + " layouts are seen");
        }
    }

    public static void main(String[] args) {
        findArrays();
        Sentence.holds("Terms: Any objects can live together whose needed pages are at most P, whatever was allocated"
            + " and freed before", LayoutsTest::eachChangeInEachLayout);
        Sentence.finish();
    }
}
