import java.lang.reflect.Method;
import java.util.ArrayList;
import java.util.Comparator;
import java.util.List;

/** Runs every test of a boundary; each is a method named after its promise. */
public final class BoundariesTest {
    private static final List<Class<?>> PARTS = List.of(KitchenBoundaries.class, StepBoundaries.class,
        ForesightBoundaries.class, PlanBoundaries.class, ServiceBoundaries.class, TextBoundaries.class,
        SheetBoundaries.class, ImageBoundaries.class);
    private static final int PROMISES = 41;

    public static void main(String[] args) throws ReflectiveOperationException {
        List<Method> tests = tests();
        int failed = 0;
        for (Method test : tests) {
            Asking.WRONG.clear();
            test.invoke(null);
            if (!Asking.WRONG.isEmpty()) {
                failed++;
                tell(test);
            }
        }
        int missing = untested(tests);
        System.out.println(tests.size() + " tests of boundaries, " + failed + " failed");
        if (failed + missing != 0) {
            System.exit(1);
        }
    }

    private static List<Method> tests() {
        List<Method> tests = new ArrayList<>();
        for (Class<?> part : PARTS) {
            for (Method m : part.getDeclaredMethods()) {
                if (m.isAnnotationPresent(Says.class)) {
                    tests.add(m);
                }
            }
        }
        tests.sort(Comparator.comparing(Method::getName));
        return tests;
    }

    private static void tell(Method test) {
        System.out.println(test.getName() + ": \"" + test.getAnnotation(Says.class).value() + "\"");
        for (String wrong : Asking.WRONG) {
            System.out.println("    " + wrong);
        }
    }

    private static int untested(List<Method> tests) {
        int missing = 0;
        for (int p = 1; p <= PROMISES; p++) {
            String name = String.format("promise%02d_", p);
            if (tests.stream().noneMatch(t -> t.getName().startsWith(name))) {
                missing++;
                System.out.println("no test of a boundary of promise " + p);
            }
        }
        return missing;
    }
}
