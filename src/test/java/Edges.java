import java.lang.reflect.InvocationTargetException;
import java.lang.reflect.Method;
import java.lang.reflect.Modifier;
import java.util.ArrayList;
import java.util.Comparator;
import java.util.List;
import java.util.function.Supplier;
import java.util.function.ToIntFunction;

/** Runs the tests of edges: every static method of a class whose name is a promise's number (p07..) is a test of its own. */
final class Edges {
    private static final Due DUE = new Due();
    private static int tests = 0;

    private Edges() { }

    static void run(Class<?> cases) {
        List<Method> all = new ArrayList<>();
        for (Method method : cases.getDeclaredMethods()) {
            if (method.getName().matches("p\\d\\d[a-z].*") && Modifier.isStatic(method.getModifiers())) {
                all.add(method);
            }
        }
        DUE.same("tests in " + cases.getName(), all.isEmpty() ? 0 : 1, 1);
        all.sort(Comparator.comparing(Method::getName));
        for (Method method : all) {
            runOne(method);
        }
        System.out.print(tests + " tests; ");
        DUE.close(cases.getName());
    }

    private static void runOne(Method method) {
        DUE.part(method.getName());
        int before = DUE.asked();
        try {
            method.invoke(null);
        } catch (InvocationTargetException thrown) {
            DUE.same("threw " + thrown.getCause(), 1, 0);
        } catch (IllegalAccessException refused) {
            throw new IllegalStateException(refused);
        }
        if (DUE.asked() == before) {
            DUE.same("asks nothing", 1, 0);
        }
        tests++;
    }

    static void is(String call, long got, long want) {
        DUE.same(call, got, want);
    }

    static void isSame(String call, Supplier<String> one, Supplier<String> other) {
        String difference = Play.difference(one, other);
        DUE.same(difference.isEmpty() ? call : call + ": " + difference, difference.length(), 0);
    }

    /** The call is answered so, and all stands then as on a twin of which it was not asked. */
    static void changesNothing(String name, Supplier<PrisonWeddings> start, ToIntFunction<PrisonWeddings> call, int want) {
        PrisonWeddings x = start.get(), twin = start.get();
        is(name, call.applyAsInt(x), want);
        isSame("behind " + name, () -> Play.picture(x), () -> Play.picture(twin));
        isSame("what was ahead of " + name, () -> Play.past(x), () -> Play.past(twin));
    }
}
