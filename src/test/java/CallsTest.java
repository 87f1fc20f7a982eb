import java.io.IOException;
import java.util.ArrayList;
import java.util.HashMap;
import java.util.List;
import java.util.Map;
import java.util.Set;
import java.util.TreeSet;

/** Rules of LANGUAGE.md that are seen from the compiled classes: 2, 4, 6, 7, 8 and 11. */
public final class CallsTest {
    /** All of the library that the program uses; each stands in rule 4, or is the exception of the document. */
    private static final Set<String> LIBRARY = Set.of("java/lang/Object.<init>()V", "java/util/NoSuchElementException.<init>()V",
        "java/lang/Math.max(II)I", "java/lang/Math.min(II)I", "java/lang/Math.abs(I)I", "java/lang/Integer.bitCount(I)I",
        "java/lang/Integer.numberOfTrailingZeros(I)I", "java/lang/String.indexOf(I)I",
        "java/lang/System.arraycopy(Ljava/lang/Object;ILjava/lang/Object;II)V");
    /** What may be odd: netOf divides by a share that it has looked at. */
    private static final Set<String> KNOWN = Set.of("StormParting$Cover.netOf(I)I divides");
    private static final Set<String> RECURSIVE = Set.of("StormParting$Search.part(III)V");

    private final Map<String, Set<String>> calls = new HashMap<>();
    private final Map<String, Integer> depths = new HashMap<>();

    public static void main(String[] args) throws IOException {
        new CallsTest().run();
        Check.end();
    }

    private void run() throws IOException {
        List<String> names = new ArrayList<>();
        names.add("StormParting");
        for (Class<?> inner : StormParting.class.getDeclaredClasses()) {
            names.add(inner.getName());
        }
        Set<String> odd = new TreeSet<>();
        for (String name : names) {
            Compiled compiled = new Compiled(name);
            calls.putAll(compiled.calls);
            odd.addAll(compiled.odd);
            Check.due("rule 11: fields of " + name + ", " + compiled.fields, compiled.fields <= 20, true);
        }
        Check.due("rule 11: classes, " + names.size(), names.size() <= 12, true);
        Check.due("rules 2, 6, 7: " + odd, odd, KNOWN);
        for (Map.Entry<String, Set<String>> method : calls.entrySet()) {
            for (String called : method.getValue()) {
                boolean known = calls.containsKey(called) || LIBRARY.contains(called);
                Check.due("rule 4: " + method.getKey() + " calls " + called, known, true);
                Check.due("rule 8: " + called + " calls itself", called.equals(method.getKey()), RECURSIVE.contains(called)
                    && called.equals(method.getKey()));
            }
            int deep = depth(method.getKey(), 0);
            Check.due("rule 11: " + method.getKey() + " goes " + deep + " calls deep", deep <= 8, true);
        }
    }

    /** The method itself and the library are counted; a call of itself is recursion and is not. */
    private int depth(String method, int open) {
        if (open > 50) {
            return 99;
        }
        Integer known = depths.get(method);
        if (known != null) {
            return known;
        }
        int deepest = 0;
        for (String called : calls.getOrDefault(method, Set.of())) {
            deepest = called.equals(method) ? deepest : Math.max(deepest, depth(called, open + 1));
        }
        depths.put(method, deepest + 1);
        return deepest + 1;
    }
}
