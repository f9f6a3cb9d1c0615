import java.lang.reflect.Constructor;
import java.lang.reflect.Field;
import java.lang.reflect.Method;
import java.lang.reflect.Modifier;
import java.util.Arrays;
import java.util.Set;
import java.util.TreeSet;

/** The class has the constant, constructor and methods of the document, and no others that can be seen. */
public final class FaceTests {
    private static final String[] FACE = {
        "boolean has(int, int) throws IndexOutOfBoundsException, IllegalStateException",
        "boolean isIn(int)",
        "boolean isInCore(int) throws IndexOutOfBoundsException",
        "int back() throws IllegalStateException",
        "int bound(int, int, int) throws IndexOutOfBoundsException, IllegalArgumentException, UnsupportedOperationException",
        "int check() throws IllegalStateException",
        "int claim()",
        "int core() throws IllegalStateException",
        "int count()",
        "int fact() throws UnsupportedOperationException",
        "int fair()",
        "int fault(boolean)",
        "int feed(long, int) throws IllegalArgumentException, UnsupportedOperationException",
        "int holds() throws IllegalStateException",
        "int next() throws IllegalStateException",
        "int relation(long, int) throws IllegalArgumentException, UnsupportedOperationException",
        "int solve()",
        "int told(int)",
        "int unlike()",
        "int value() throws IllegalStateException",
    };
    private static int wrong = 0;

    public static void main(String[] args) {
        Class<?> face = RelationFinder.class;
        same("the class", Modifier.toString(face.getModifiers()), "public final");
        Set<String> methods = new TreeSet<>();
        Set<String> names = new TreeSet<>();
        for (Method method : face.getDeclaredMethods()) {
            if (!Modifier.isPrivate(method.getModifiers())) {
                same(method.getName(), Modifier.toString(method.getModifiers()), "public");
                methods.add(told(method));
                names.add(method.getName());
            }
        }
        same("methods", methods, new TreeSet<>(Arrays.asList(FACE)));
        for (Method method : face.getDeclaredMethods()) {
            if (Modifier.isPrivate(method.getModifiers()) && names.contains(method.getName())) {
                same("a private method", method.getName(), "another name");
            }
        }
        fields(face);
        same("constructors", face.getDeclaredConstructors().length, 1);
        for (Constructor<?> constructor : face.getDeclaredConstructors()) {
            same("constructor", constructor.toString(), "public RelationFinder(int)");
        }
        for (Class<?> inside : face.getDeclaredClasses()) {
            same(inside.getName(), Modifier.isStatic(inside.getModifiers()) && !Modifier.isPublic(inside.getModifiers()), true);
        }
        System.out.println(wrong == 0 ? "the face is as due" : wrong + " things of the face are wrong");
        if (wrong != 0) {
            System.exit(1);
        }
    }

    private static void fields(Class<?> face) {
        for (Field field : face.getDeclaredFields()) {
            boolean isFace = field.getName().equals("NONE");
            same(field.getName(), Modifier.isPrivate(field.getModifiers()), !isFace);
            if (Modifier.isStatic(field.getModifiers())) {
                same(field.getName(), Modifier.isFinal(field.getModifiers()), true);
            }
            if (isFace) {
                same("NONE", field.toString(), "public static final int RelationFinder.NONE");
            }
        }
    }

    private static String told(Method method) {
        StringBuilder text = new StringBuilder(method.getReturnType() + " " + method.getName() + "(");
        for (Class<?> type : method.getParameterTypes()) {
            text.append(text.charAt(text.length() - 1) == '(' ? "" : ", ").append(type);
        }
        text.append(')');
        String before = " throws ";
        for (Class<?> type : method.getExceptionTypes()) {
            text.append(before).append(type.getSimpleName());
            before = ", ";
        }
        return text.toString();
    }

    private static void same(String what, Object got, Object want) {
        if (!got.equals(want)) {
            wrong++;
            System.out.println(what + " is " + got + ", due is " + want);
        }
    }
}
