import java.lang.reflect.InvocationTargetException;
import java.lang.reflect.Method;
import java.lang.reflect.Modifier;
import java.util.ArrayList;
import java.util.Comparator;
import java.util.List;
import java.util.Set;

// Any calls with any arguments: none throws, each with another STATUS than 0 gives NONE or false
// and changes nothing, and the same calls give the same answers.
public final class WildTest {
    private static final Check CHECK = new Check("WildTest");
    private static final Set<String> WITHOUT_STATUS = Set.of("status", "fault", "feed", "top", "bottom");
    private static final long[] FAR = {-1, Integer.MIN_VALUE, Integer.MAX_VALUE, 16, 17, 60, 61, 900, 9999, 65535, 65536, 1L << 33};

    public static void main(String[] args) throws IllegalAccessException {
        List<Method> calls = new ArrayList<>();
        for (Method m : SwapBook.class.getDeclaredMethods()) {
            if (Modifier.isPublic(m.getModifiers())) {
                calls.add(m);
            }
        }
        calls.sort(Comparator.comparing(Method::getName));
        for (int run = 0; run < 600; run++) {
            long first = play(run, calls);
            if (run % 20 == 0) {
                CHECK.due("the same calls again", play(run, calls), first);
            }
        }
        CHECK.end();
    }

    private static long play(int run, List<Method> calls) throws IllegalAccessException {
        Maker maker = new Maker(run);
        SwapBook x = new SwapBook();
        long sum = 0;
        for (int call = 0; call < 512; call++) {
            if (maker.below(60) == 0) {
                feedText(x, maker);
            }
            Method m = calls.get(maker.below(calls.size()));
            Object[] with = arguments(m, x, maker);
            String told = m.getName() + java.util.Arrays.toString(with);
            long before = maker.below(8) == 0 ? sight(x) : 0;
            long answer = 0;
            try {
                Object got = m.invoke(x, with);
                answer = got instanceof Boolean b ? (b ? 1 : 0) : ((Number) got).longValue();
            } catch (InvocationTargetException e) {
                CHECK.due(told + " threw " + e.getCause(), 1, 0);
            }
            sum = sum * 31 + answer * 7 + x.status();
            if (x.status() != 0 && !WITHOUT_STATUS.contains(m.getName())) {
                CHECK.due(told, answer, m.getReturnType() == boolean.class ? 0 : -1);
                int status = x.status();
                if (before != 0) {
                    CHECK.due(told + " changes nothing", sight(x), before);
                }
                CHECK.due(told + " is a status", status >= 1 && status <= 11, true);
            }
        }
        return sum;
    }

    private static void feedText(SwapBook x, Maker maker) {
        String book = maker.book(maker.below(5), 1 + maker.below(16));
        Check.book(x, book);
        Model model = new Model();
        model.readBook(book);
        if (!model.islands.isEmpty()) {
            String log = maker.log(model, 1 + maker.below(10));
            if (log.length() <= 300) {
                Check.log(x, log);
            }
        }
    }

    private static Object[] arguments(Method m, SwapBook x, Maker maker) {
        Class<?>[] types = m.getParameterTypes();
        Object[] with = new Object[types.length];
        for (int i = 0; i < types.length; i++) {
            long v = wild(x, maker);
            with[i] = types[i] == long.class ? (Object) v : (Object) (int) v;
        }
        return with;
    }

    private static long wild(SwapBook x, Maker maker) {
        switch (maker.below(6)) {
            case 0:
                return FAR[maker.below(FAR.length)];
            case 1:
                return maker.below(Integer.MAX_VALUE) - (1 << 30);
            case 2:
                return maker.below(1 << Math.max(0, x.many(0)));
            case 3:
                int raw = maker.below(1 << Math.max(0, x.many(0)));
                return raw | x.lacks(raw);
            default:
                return maker.below(5);
        }
    }

    // What can be seen of the state without changing it, as one number above 0.
    private static long sight(SwapBook x) {
        long sum = x.top() * 31 + x.bottom();
        for (int t = 0; t < 4; t++) {
            for (int place = 0; place < 60; place += 7) {
                sum = sum * 31 + x.read(t, place);
            }
        }
        for (int c = 0; c < 16; c++) {
            sum = sum * 31 + x.change(c, 0) * 5 + x.change(c, 1) + x.hangs(c, 0) * 3L + x.orderAt(c);
        }
        for (int i = 0; i < 4; i++) {
            sum = sum * 31 + x.has(i) + x.many(i);
        }
        for (int what = 0; what < 5; what++) {
            sum = sum * 31 + x.sailed(what);
        }
        sum = sum * 31 + x.agreed(7, 3);
        return sum & Long.MAX_VALUE | 1;
    }
}
