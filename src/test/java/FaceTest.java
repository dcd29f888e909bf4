import java.lang.reflect.Constructor;
import java.lang.reflect.Field;
import java.lang.reflect.Method;
import java.lang.reflect.Modifier;
import java.util.Arrays;
import java.util.Set;
import java.util.TreeSet;

/** The public face is the document's, and no other member can be seen. */
public final class FaceTest {
    private static final String[] FACE = {
        "void begin()",
        "int write(int,int,long) IllegalArgumentException IllegalStateException UnsupportedOperationException",
        "void cut(int,int) IllegalArgumentException IllegalStateException UnsupportedOperationException",
        "void remove(int) IllegalArgumentException IllegalStateException UnsupportedOperationException",
        "int size(int,int) IllegalArgumentException IllegalStateException",
        "int octet(int,int,int) IllegalArgumentException IllegalStateException IndexOutOfBoundsException",
        "int point() IllegalStateException UnsupportedOperationException",
        "void snapshot(int) IllegalArgumentException IllegalStateException UnsupportedOperationException",
        "void drop(int) IllegalArgumentException IllegalStateException",
        "boolean crash(int,boolean) IllegalArgumentException IllegalStateException",
        "void fail(int) IllegalArgumentException IllegalStateException",
        "void replace() IllegalStateException",
        "int rebuild(int) IllegalArgumentException IllegalStateException",
        "long block(int,int,int) IllegalArgumentException IllegalStateException",
        "int count(int) IllegalArgumentException",
    };

    private FaceTest() {
    }

    public static void main(String[] args) {
        Expect expect = new Expect();
        Class<?> vault = RaidVault.class;
        expect.same("public final", vault.getModifiers(), Modifier.PUBLIC | Modifier.FINAL);
        methods(expect, vault);
        Constructor<?>[] constructors = vault.getDeclaredConstructors();
        expect.same("constructors", constructors.length, 1);
        expect.same("constructor's modifiers", constructors[0].getModifiers(), Modifier.PUBLIC);
        for (Field field : vault.getDeclaredFields()) {
            expect.same(field + " is private", Modifier.isPrivate(field.getModifiers()) ? 1 : 0, 1);
        }
        for (Class<?> inner : vault.getDeclaredClasses()) {
            int modifiers = inner.getModifiers();
            boolean fits = Modifier.isStatic(modifiers) && !Modifier.isPublic(modifiers) && !Modifier.isProtected(modifiers);
            expect.same(inner + " is static and hidden", fits ? 1 : 0, 1);
            staticFieldsAreFinal(expect, inner);
        }
        staticFieldsAreFinal(expect, vault);
        expect.end();
    }

    private static void methods(Expect expect, Class<?> vault) {
        Set<String> due = new TreeSet<>(Arrays.asList(FACE));
        Set<String> names = new TreeSet<>();
        Set<String> hidden = new TreeSet<>();
        for (Method method : vault.getDeclaredMethods()) {
            if (Modifier.isPrivate(method.getModifiers())) {
                hidden.add(method.getName());
                continue;
            }
            String told = tell(method);
            expect.same(told + " is in the document", due.remove(told) ? 1 : 0, 1);
            expect.same(told + " is public", method.getModifiers(), Modifier.PUBLIC);
            names.add(method.getName());
        }
        for (String missing : due) {
            expect.same(missing + " is there", 0, 1);
        }
        hidden.retainAll(names);
        expect.same("private methods with a public one's name", hidden.size(), 0);
    }

    private static String tell(Method method) {
        StringBuilder told = new StringBuilder();
        told.append(method.getReturnType().getName()).append(' ').append(method.getName()).append('(');
        for (int i = 0; i < method.getParameterCount(); i++) {
            told.append(i == 0 ? "" : ",").append(method.getParameterTypes()[i].getName());
        }
        told.append(')');
        for (Class<?> thrown : method.getExceptionTypes()) {
            told.append(' ').append(thrown.getSimpleName());
        }
        return told.toString();
    }

    private static void staticFieldsAreFinal(Expect expect, Class<?> type) {
        for (Field field : type.getDeclaredFields()) {
            int modifiers = field.getModifiers();
            boolean fits = !Modifier.isStatic(modifiers) || Modifier.isFinal(modifiers);
            expect.same(field + " is no changing static field", fits ? 1 : 0, 1);
        }
    }
}
