import java.lang.reflect.InvocationTargetException;
import java.lang.reflect.Method;
import java.lang.reflect.Modifier;
import java.util.Arrays;
import java.util.Comparator;

/** Runs the tests of a class: its static methods that are not private, each with a promise's number in its name. */
final class Tests {
    private static final String NAME = "(term[123])?[pP]romise(0[1-9]|1[0-6])[A-Z].*";

    private Tests() {
    }

    static void run(Class<?> type) {
        Expect expect = new Expect();
        Method[] methods = type.getDeclaredMethods();
        Arrays.sort(methods, Comparator.comparing(Method::getName));
        int tests = 0;
        for (Method method : methods) {
            if (!Modifier.isPrivate(method.getModifiers()) && !method.getName().equals("main")) {
                tests++;
                runOne(expect, method);
            }
        }
        System.out.println(tests + " tests");
        expect.same("there are tests", tests > 0 ? 1 : 0, 1);
        expect.end();
    }

    private static void runOne(Expect expect, Method method) {
        expect.start(method.getName());
        expect.same("a promise's number in the name", method.getName().matches(NAME) ? 1 : 0, 1);
        try {
            method.invoke(null, expect);
        } catch (InvocationTargetException e) {
            expect.same("the test itself", e.getCause().toString(), "no exception");
        } catch (IllegalAccessException e) {
            expect.same("the test itself", e.toString(), "a call");
        }
    }
}
