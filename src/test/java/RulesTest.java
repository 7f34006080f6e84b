import java.io.IOException;
import java.lang.reflect.Constructor;
import java.lang.reflect.Field;
import java.lang.reflect.Method;
import java.lang.reflect.Modifier;
import java.nio.file.Files;
import java.nio.file.Path;
import java.util.HashSet;
import java.util.List;
import java.util.Set;
import java.util.TreeSet;
import java.util.regex.Matcher;
import java.util.regex.Pattern;

// The face of the document, and those rules of LANGUAGE.md that can be seen from the text.
public final class RulesTest {
    private static final Check CHECK = new Check("RulesTest");
    private static final String FACE = "status() top() bottom() tray(int,int,int) write(int,int,long) read(int,int) "
        + "pour(int,int,int,int,int) feed(int,int,int,int,int) book(int) log(int) fault(int) many(int) change(int,int) "
        + "hangs(int,int) holds(int) lacks(int) out(int,int) pick(int,int) heaviest() alone() size(int) thing(int,int) "
        + "says(int,int) key(int,int) place(int,int) like(int,int) apart(int,int) quarrels(int) with(int,int) leastOut(int) "
        + "mostQuiet() orders(int) ahead(int,int,int) ordered(int,long) order(int,int) number() orderAt(int) acts(int) "
        + "swap(int) forward(int) swaps() has(int) give(int,int) sail(int) sailed(int) agreed(int,int) seal(int,int) "
        + "open(int) mark() back()";
    private static final Set<String> LONG = Set.of("top", "bottom", "read", "orders", "number");
    private static final Set<String> BOOLEAN = Set.of("tray", "write", "pour", "ahead", "order", "swap", "give");

    public static void main(String[] args) throws IOException {
        askFace();
        String source = Files.readString(Path.of("src/main/java/SwapBook.java"));
        askText(source.replaceAll("//[^\\n]*", "").replaceAll("\"[^\"\\n]*\"", "TEXT"));
        CHECK.due("signs above 126", source.chars().filter(c -> c > 126).count(), 0);
        CHECK.end();
    }

    private static void askFace() {
        Set<String> names = new HashSet<>();
        Set<String> seen = new TreeSet<>();
        for (Method m : SwapBook.class.getDeclaredMethods()) {
            if (Modifier.isPrivate(m.getModifiers())) {
                continue;
            }
            CHECK.due(m + " is public and no static one", m.getModifiers(), Modifier.PUBLIC);
            StringBuilder types = new StringBuilder();
            for (Class<?> type : m.getParameterTypes()) {
                types.append(types.length() == 0 ? "" : ",").append(type.getName());
            }
            seen.add(m.getName() + "(" + types + ")");
            names.add(m.getName());
            String type = LONG.contains(m.getName()) ? "long" : BOOLEAN.contains(m.getName()) ? "boolean" : "int";
            CHECK.due(m + " gives " + type, m.getReturnType().getName().equals(type), true);
        }
        CHECK.due("the face", seen.equals(new TreeSet<>(List.of(FACE.split(" ")))), true);
        askPrivateNames(SwapBook.class, names);
        for (Class<?> inside : SwapBook.class.getDeclaredClasses()) {
            CHECK.due(inside + " is static", Modifier.isStatic(inside.getModifiers()), true);
            askPrivateNames(inside, names);
            askFields(inside);
        }
        CHECK.due("classes", SwapBook.class.getDeclaredClasses().length <= 12, true);
        CHECK.due("final", SwapBook.class.getModifiers(), Modifier.PUBLIC | Modifier.FINAL);
        for (Constructor<?> c : SwapBook.class.getDeclaredConstructors()) {
            CHECK.due("constructor", c.getModifiers() == Modifier.PUBLIC && c.getParameterCount() == 0, true);
        }
        for (Field f : SwapBook.class.getDeclaredFields()) {
            CHECK.due(f.getName(), Modifier.isPrivate(f.getModifiers()) != f.getName().equals("NONE"), true);
        }
        askFields(SwapBook.class);
    }

    private static void askPrivateNames(Class<?> inside, Set<String> names) {
        for (Method m : inside.getDeclaredMethods()) {
            CHECK.due(m + " bears another name", names.contains(m.getName()) && !Modifier.isPublic(m.getModifiers()), false);
            CHECK.due(m + " takes at most seven", m.getParameterCount() <= 7, true);
        }
    }

    private static void askFields(Class<?> inside) {
        int count = 0;
        for (Field f : inside.getDeclaredFields()) {
            if (Modifier.isStatic(f.getModifiers())) {
                CHECK.due(f + " is final", Modifier.isFinal(f.getModifiers()), true);
            } else {
                count++;
            }
        }
        CHECK.due("fields of " + inside, count <= 20, true);
    }

    private static void askText(String code) {
        String[] never = {"throw", "throws", "try", "catch", "finally", "synchronized", "assert", "import", "package", "Object",
            "hashCode", "toString", "equals", "instanceof", "var", "yield", "new int\\[\\]\\["};
        for (String word : never) {
            CHECK.due("the word " + word, Pattern.compile("\\b" + word + "\\b").matcher(code).find(), false);
        }
        for (String sign : new String[] {"->", "::", "+ TEXT", "TEXT +", "/*", "@"}) {
            CHECK.due("the sign " + sign, code.contains(sign), false);
        }
        Matcher calls = Pattern.compile("\\b(String|Math|Integer|Long|System|Arrays|StringBuilder)\\.([a-zA-Z]+)").matcher(code);
        while (calls.find()) {
            Set<String> allowed = Set.of("Math.max", "Math.min", "Integer.bitCount", "System.arraycopy");
            CHECK.due(calls.group(), allowed.contains(calls.group()), true);
        }
        askMethods(code);
    }

    // A method begins with a line that ends in ') {' and ends with the brace of the same depth.
    private static void askMethods(String code) {
        String[] lines = code.split("\\n");
        for (int i = 0; i < lines.length; i++) {
            Matcher head = Pattern.compile("^( {4}| {8})(?!if|for|while|switch|\\}| )\\S.*\\) \\{$").matcher(lines[i]);
            if (head.find()) {
                int end = i;
                while (!lines[end].equals(head.group(1) + "}")) {
                    end++;
                }
                CHECK.due("lines of " + lines[i].trim(), end - i <= 60, true);
            }
        }
    }
}
