import java.io.IOException;
import java.lang.reflect.Modifier;
import java.util.ArrayList;
import java.util.HashMap;
import java.util.List;
import java.util.Map;
import java.util.Set;
import java.util.TreeSet;

/**
 * Which method calls which, read from the compiled classes, and those rules of LANGUAGE.md that hang on it:
 * what is recursive is private (8), the calls that stand open at once stay under 300 (8), calls that are no
 * recursion go at most eight deep (11), and no code throws, catches, casts or asks for a type (6).
 */
public final class CallsTest {
    private static final int MOST_DEEP = 8;
    private static final int MOST_OPEN = 300;
    // the recursion goes week by week, of which there are eight, and once beyond the last
    private static final int LEVELS = 9;

    private final Due due = new Due();
    private final Map<String, Set<String>> called = new HashMap<>();
    private final Map<String, Integer> access = new HashMap<>();

    private void read() throws IOException {
        List<Class<?>> classes = new ArrayList<>(List.of(CheeseFirst.class.getDeclaredClasses()));
        classes.add(CheeseFirst.class);
        for (Class<?> c : classes) {
            due.due("nothing can be overridden: " + c, Modifier.isFinal(c.getModifiers()) ? 1 : 0, 1);
            for (ClassFile.Code code : ClassFile.read(c)) {
                called.put(code.name(), code.calls());
                access.put(code.name(), code.access());
                due.due("catches in " + code.name(), code.catches(), 0);
                due.due("throws, casts, locks in " + code.name() + " " + code.notAllowed(), code.notAllowed().size(), 0);
            }
        }
        for (Set<String> names : called.values()) {
            names.retainAll(called.keySet());
        }
    }

    /** All that a method can come to by calls. */
    private Set<String> reachedFrom(String name) {
        Set<String> reached = new TreeSet<>();
        List<String> open = new ArrayList<>(called.get(name));
        while (!open.isEmpty()) {
            String next = open.remove(open.size() - 1);
            if (reached.add(next)) {
                open.addAll(called.get(next));
            }
        }
        return reached;
    }

    private int depthOf(String name, Map<String, Set<String>> reached, Map<String, Integer> known) {
        Integer was = known.get(name);
        if (was != null) {
            return was;
        }
        int below = 0;
        Set<String> ring = ringOf(name, reached);
        for (String member : ring) {
            for (String next : called.get(member)) {
                if (!ring.contains(next)) {
                    below = Math.max(below, depthOf(next, reached, known));
                }
            }
        }
        known.put(name, below + 1);
        return below + 1;
    }

    /** A method and all that it calls and is called by in turn. */
    private static Set<String> ringOf(String name, Map<String, Set<String>> reached) {
        Set<String> ring = new TreeSet<>(Set.of(name));
        for (String next : reached.get(name)) {
            if (reached.get(next).contains(name)) {
                ring.add(next);
            }
        }
        return ring;
    }

    private void run() throws IOException {
        read();
        Map<String, Set<String>> reached = new HashMap<>();
        for (String name : called.keySet()) {
            reached.put(name, reachedFrom(name));
        }
        int deepest = 0;
        int ring = 0;
        for (String name : called.keySet()) {
            if (reached.get(name).contains(name)) {
                due.due("recursive, so private: " + name, Modifier.isPrivate(access.get(name)) ? 1 : 0, 1);
                ring = Math.max(ring, ringOf(name, reached).size());
            }
            int depth = depthOf(name, reached, new HashMap<>());
            due.due("deep " + depth + ": " + name, depth <= MOST_DEEP ? 1 : 0, 1);
            deepest = Math.max(deepest, depth);
        }
        due.due("open at once", ring * LEVELS + deepest < MOST_OPEN ? 1 : 0, 1);
        System.out.println(called.size() + " methods, at most " + deepest + " deep, " + ring + " in one recursion");
    }

    public static void main(String[] args) throws IOException {
        CallsTest t = new CallsTest();
        t.run();
        t.due.end("CallsTest");
    }
}
