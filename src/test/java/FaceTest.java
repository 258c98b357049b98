import java.lang.reflect.Constructor;
import java.lang.reflect.Field;
import java.lang.reflect.Method;
import java.lang.reflect.Modifier;
import java.util.Arrays;
import java.util.TreeSet;

/** The signatures of the document; that the class shows nothing else, and has no static state. */
final class FaceTest {
    private static final String[] FACE = {
        "int assertion(int) NoSuchElementException IllegalStateException",
        "int assume(int) NoSuchElementException IllegalStateException",
        "int attempt()",
        "int blame() IllegalStateException",
        "int check()",
        "int clear()",
        "int count(int) IllegalArgumentException",
        "int entailed(int) NoSuchElementException UnsupportedOperationException",
        "int fixed(int) NoSuchElementException UnsupportedOperationException",
        "int formula(int,int,int) IllegalArgumentException IllegalStateException",
        "int least(int) NoSuchElementException UnsupportedOperationException",
        "int pop() IllegalStateException",
        "int push() IllegalStateException",
        "int term(int,int,int,int) IllegalArgumentException IllegalStateException",
        "int value(int) NoSuchElementException UnsupportedOperationException",
        "int valueOf(int) NoSuchElementException UnsupportedOperationException",
        "int variable(int) IllegalArgumentException IllegalStateException",
    };

    public static void main(String[] args) {
        Class<?> face = BitSolver.class;
        Expect.same("public", "true", "" + Modifier.isPublic(face.getModifiers()));
        Expect.same("final", "true", "" + Modifier.isFinal(face.getModifiers()));
        methods(face);
        constructors(face);
        fieldsAreHidden(face);
        noStaticState(face);
        classesInside(face);
        Expect.finish();
    }

    private static void methods(Class<?> face) {
        TreeSet<String> shown = new TreeSet<>();
        TreeSet<String> shownNames = new TreeSet<>();
        for (Method method : face.getDeclaredMethods()) {
            if (!Modifier.isPrivate(method.getModifiers())) {
                shown.add(signature(method));
                shownNames.add(method.getName());
                Expect.same(method + " is public", "true",
                        "" + Modifier.isPublic(method.getModifiers()));
            }
        }
        Expect.same("methods", new TreeSet<>(Arrays.asList(FACE)).toString(), shown.toString());
        hiddenNames(face, shownNames);
        for (Class<?> inside : face.getDeclaredClasses()) {
            hiddenNames(inside, shownNames);
        }
    }

    private static void hiddenNames(Class<?> where, TreeSet<String> shownNames) {
        for (Method method : where.getDeclaredMethods()) {
            if (!Modifier.isPublic(method.getModifiers())) {
                Expect.same(method + " bears a public name", "false",
                        "" + shownNames.contains(method.getName()));
            }
        }
    }

    private static String signature(Method method) {
        StringBuilder text = new StringBuilder();
        text.append(method.getReturnType().getSimpleName()).append(' ').append(method.getName());
        text.append('(');
        for (Class<?> type : method.getParameterTypes()) {
            text.append(text.charAt(text.length() - 1) == '(' ? "" : ",");
            text.append(type.getSimpleName());
        }
        text.append(')');
        for (Class<?> type : method.getExceptionTypes()) {
            text.append(' ').append(type.getSimpleName());
        }
        return text.toString();
    }

    private static void constructors(Class<?> face) {
        Constructor<?>[] made = face.getDeclaredConstructors();
        Expect.same("constructors", "1", "" + made.length);
        Expect.same("constructor", "public BitSolver()", made[0].toString());
    }

    private static void fieldsAreHidden(Class<?> face) {
        for (Field field : face.getDeclaredFields()) {
            Expect.same(field + " is private", "true",
                    "" + Modifier.isPrivate(field.getModifiers()));
        }
    }

    private static void noStaticState(Class<?> where) {
        for (Field field : where.getDeclaredFields()) {
            int modifiers = field.getModifiers();
            boolean mutable = Modifier.isStatic(modifiers) && !Modifier.isFinal(modifiers);
            Expect.same(field + " is static and not final", "false", "" + mutable);
        }
    }

    private static void classesInside(Class<?> face) {
        for (Class<?> inside : face.getDeclaredClasses()) {
            int modifiers = inside.getModifiers();
            boolean shown = Modifier.isPublic(modifiers) || Modifier.isProtected(modifiers);
            Expect.same(inside + " is shown", "false", "" + shown);
            Expect.same(inside + " is static", "true", "" + Modifier.isStatic(modifiers));
            noStaticState(inside);
        }
    }
}
