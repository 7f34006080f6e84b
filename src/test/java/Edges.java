import java.io.IOException;
import java.lang.reflect.InvocationTargetException;
import java.lang.reflect.Method;
import java.nio.file.Files;
import java.nio.file.Path;
import java.util.Arrays;
import java.util.List;
import java.util.Map;
import java.util.Set;
import java.util.TreeSet;
import java.util.function.Supplier;

// Tests of boundary cases. Each begins with its promise's number and the words of the document that
// it asks for, which must stand there: under the promise itself, in the Terms, or ahead of them.
final class Edges {
    private static final Path DOCUMENT = Path.of("../shared/DOC.md");
    private static final Set<String> WITHOUT_STATUS = Set.of("status", "fault", "feed", "top", "bottom");

    private static final int NO_SUCH_WHAT = 4;

    private final Check check;
    private final String document;
    private final Set<Integer> promises = new TreeSet<>();
    private String edge = "";

    Edges(String test) {
        check = new Check(test);
        document = readDocument();
    }

    private static String readDocument() {
        try {
            return Files.readString(DOCUMENT);
        } catch (IOException e) {
            return "";
        }
    }

    SwapBook begin(int promise, String words) {
        edge = "Promise " + promise + " \"" + words + "\": ";
        promises.add(promise);
        check.due(edge + "stands in the document", standsThere(promise, words), true);
        return new SwapBook();
    }

    SwapBook begin(int promise, String words, String book) {
        SwapBook x = begin(promise, words);
        Check.book(x, book);
        return x;
    }

    private boolean standsThere(int promise, String words) {
        String[] heads = {"## What it is", "## Terms", "## Promise " + promise + ":"};
        return Arrays.stream(heads).anyMatch(head -> between(head, "\n## ").contains(words));
    }

    private String between(String head, String next) {
        int from = document.indexOf(head);
        int to = from < 0 ? -1 : document.indexOf(next, from);
        return from < 0 || to < 0 ? "" : document.substring(from, to);
    }

    // ---- single calls, by their names, so that a wrong one can be told with what it was asked

    static long call(SwapBook x, String name, long... with) {
        for (Method m : SwapBook.class.getDeclaredMethods()) {
            if (m.getName().equals(name) && m.getParameterCount() == with.length) {
                return invoke(x, m, with);
            }
        }
        throw new IllegalArgumentException(name);
    }

    private static long invoke(SwapBook x, Method m, long... with) {
        Object[] given = new Object[with.length];
        for (int i = 0; i < with.length; i++) {
            boolean wide = m.getParameterTypes()[i] == long.class;
            given[i] = wide ? (Object) with[i] : (Object) Math.toIntExact(with[i]);
        }
        try {
            Object got = m.invoke(x, given);
            return got instanceof Boolean b ? (b ? 1 : 0) : ((Number) got).longValue();
        } catch (IllegalAccessException | InvocationTargetException e) {
            throw new IllegalStateException(m.getName() + Arrays.toString(with), e);
        }
    }

    private static boolean givesBoolean(String name) {
        return Arrays.stream(SwapBook.class.getDeclaredMethods())
            .anyMatch(m -> m.getName().equals(name) && m.getReturnType() == boolean.class);
    }

    private String told(String name, long... with) {
        return edge + name + Arrays.toString(with);
    }

    // The answer (true is 1), with STATUS 0 if the call has one; it is 5 ahead of it, so that a call
    // that leaves it alone is seen.
    void gives(SwapBook x, long want, String name, long... with) {
        boolean hasStatus = !WITHOUT_STATUS.contains(name);
        if (hasStatus) {
            x.many(NO_SUCH_WHAT);
        }
        check.due(told(name, with), call(x, name, with), want);
        if (hasStatus) {
            check.due(told(name, with) + " status", x.status(), 0);
        }
    }

    void givesRow(SwapBook x, int tray, long... row) {
        for (int place = 0; place < row.length; place++) {
            gives(x, row[place], "read", tray, place);
        }
    }

    void refuses(SwapBook x, int status, String name, long... with) {
        check.due(told(name, with), call(x, name, with), givesBoolean(name) ? 0 : -1);
        check.due(told(name, with) + " status", x.status(), status);
    }

    void due(String what, long got, long want) {
        check.due(edge + what, got, want);
    }

    // ---- refused calls: besides the STATUS nothing may be otherwise than in a twin without the call

    void refused(int promise, String words, int status, String name, long... with) {
        refusedIn(World::full, promise, words, status, name, with);
    }

    void refusedIn(Supplier<SwapBook> maker, int promise, String words, int status, String name, long... with) {
        begin(promise, words);
        SwapBook x = maker.get();
        SwapBook twin = maker.get();
        refuses(x, status, name, with);
        changesOnly(told(name, with), x, twin);
    }

    // Besides these parts all that can be seen of an object is as in its twin, and these are not.
    void changesOnly(String what, SwapBook x, SwapBook twin, String... parts) {
        Map<String, List<Long>> got = World.parts(x);
        Map<String, List<Long>> want = World.parts(twin);
        for (String part : want.keySet()) {
            boolean same = got.get(part).equals(want.get(part));
            check.due(what + " leaves the " + part, same, !Arrays.asList(parts).contains(part));
        }
    }

    // ---- texts

    // The place of the FAULT is marked by a ^ in the text. The BOOK for a LOG is that of World.
    void faulty(int promise, String words, int kind, String marked) {
        SwapBook x = begin(promise, words);
        boolean log = promise == 11;
        if (log) {
            Check.book(x, World.BOOK);
        }
        int place = marked.indexOf('^');
        String text = marked.replace("^", "");
        int answer = log ? Check.log(x, text) : Check.book(x, text);
        check.due(x, edge + marked, answer, -1, 10);
        check.due(edge + marked + " fault(0)", x.fault(0), kind);
        check.due(edge + marked + " fault(1)", x.fault(1), place);
    }

    void taken(int promise, String words, int many, String text) {
        SwapBook x = begin(promise, words);
        boolean log = promise == 11;
        if (log) {
            Check.book(x, World.BOOK);
        }
        int answer = log ? Check.log(x, text) : Check.book(x, text);
        check.due(x, edge + text, answer, many, 0);
        check.due(edge + text + " fault(0)", x.fault(0), 0);
        check.due(edge + text + " fault(1)", x.fault(1), -1);
    }

    // Each promise from the first to the last one must have had an edge of its own.
    void end(int first, int last) {
        for (int promise = first; promise <= last; promise++) {
            check.due("an edge of promise " + promise, promises.contains(promise), true);
        }
        check.end();
    }
}
