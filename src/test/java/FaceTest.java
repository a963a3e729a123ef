import java.lang.reflect.Constructor;
import java.lang.reflect.Field;
import java.lang.reflect.Method;
import java.lang.reflect.Modifier;
import java.util.ArrayList;
import java.util.Arrays;
import java.util.List;
import java.util.TreeSet;

/** The public face is that of the document, and nothing else is open. */
public final class FaceTest {
    private static final String I = "IndexOutOfBoundsException";
    private static final String A = "IllegalArgumentException";
    private static final String S = "IllegalStateException";

    private static final String[] FACE = {
        "int lay(int, int) " + I + " " + A, "int chain(int, int) " + I + " " + A,
        "int add(int, int) " + I + " " + A + " " + S, "int drop(int, int) " + I, "int keep(int, int) " + I + " " + A,
        "int setValue(int, int, int) " + I + " " + A, "int put(int, int, int) " + I, "int loose(int, int, int) " + I,
        "int straighten(int, int) " + I, "int turn(int) " + I, "int copy(int, int) " + I,
        "int beside(int, int, int) " + I + " " + S, "int above(int, int, int) " + I + " " + S,
        "int meet(int, int, int) " + I, "int things(int) " + I, "int pairs(int) " + I, "int nexts(int) " + I,
        "char sign(int, int, int) " + I, "boolean isNext(int, int, int) " + I, "int lower(int, int) " + I,
        "int upper(int, int) " + I, "int ends(int, boolean) " + I, "int value(int, int) " + I,
        "boolean isSame(int, int) " + I, "boolean isChain(int, int) " + I + " " + A,
        "boolean isApart(int, int) " + I + " " + A, "int level(int, int) " + I, "int longest(int) " + I,
        "int widest(int) " + I, "int fewestChains(int) " + I, "int fewestAparts(int) " + I, "int aparts(int) " + I,
        "int sets(int) " + I, "int setsOf(int, int) " + I, "int setAt(int, int) " + I,
        "int placeOf(int, int) " + I + " " + A, "int near(int, int, char) " + I + " " + A,
        "int closed(int, int) " + I + " " + A, "int inner(int, int) " + I + " " + A,
        "int tops(int, int) " + I + " " + A, "int shared(int, int) " + I, "int rows(int) " + I,
        "int rowAt(int, int) " + I, "int rowPlace(int, int) " + I, "int nextRow(int, int) " + I + " " + A,
        "int rowsWith(int, int, int) " + I, "int rowsAt(int, int, int) " + I, "double meanPlace(int, int) " + I,
        "float share(int, int, int) " + I, "int sum(int, int) " + I, "int number(int, int, int) " + I,
        "int undone(int, int) " + I, "boolean isSound(int) " + I, "boolean areSound(int, int) " + I,
        "long checksum()",
    };

    public static void main(String[] args) {
        methodsAreTheFace();
        restIsPrivate();
        constantsAreAsDue();
        namesAreNotUsedTwice();
        Due.end("FaceTest");
    }

    private static void methodsAreTheFace() {
        TreeSet<String> found = new TreeSet<>();
        for (Method method : Belowhouse.class.getDeclaredMethods()) {
            if (!Modifier.isPrivate(method.getModifiers())) {
                Due.isTrue(method.getName() + " is public", Modifier.isPublic(method.getModifiers()));
                Due.isFalse(method.getName() + " is static", Modifier.isStatic(method.getModifiers()));
                found.add(told(method));
            }
        }
        Due.is("the methods of the face", found.toString(), new TreeSet<>(Arrays.asList(FACE)).toString());
    }

    private static String told(Method method) {
        List<String> parts = new ArrayList<>();
        for (Class<?> type : method.getParameterTypes()) {
            parts.add(type.getSimpleName());
        }
        StringBuilder text = new StringBuilder(method.getReturnType().getSimpleName() + " " + method.getName());
        text.append('(').append(String.join(", ", parts)).append(')');
        for (Class<?> thrown : method.getExceptionTypes()) {
            text.append(' ').append(thrown.getSimpleName());
        }
        return text.toString();
    }

    private static void restIsPrivate() {
        int made = Belowhouse.class.getModifiers();
        Due.isTrue("the class is public and final", Modifier.isPublic(made) && Modifier.isFinal(made));
        Constructor<?>[] constructors = Belowhouse.class.getDeclaredConstructors();
        Due.is("how many constructors", constructors.length, 1);
        Due.isTrue("the constructor is public", Modifier.isPublic(constructors[0].getModifiers()));
        Due.is("the constructor's arguments", constructors[0].getParameterCount(), 0);
        for (Field field : Belowhouse.class.getDeclaredFields()) {
            boolean isConstant = field.getName().equals("NONE") || field.getName().equals("REFUSED");
            Due.is(field.getName() + " is private", Modifier.isPrivate(field.getModifiers()), !isConstant);
        }
        for (Class<?> inside : Belowhouse.class.getDeclaredClasses()) {
            Due.isTrue(inside + " is static", Modifier.isStatic(inside.getModifiers()));
            Due.isFalse(inside + " is public", Modifier.isPublic(inside.getModifiers()));
        }
    }

    private static void constantsAreAsDue() {
        Due.is("NONE", Belowhouse.NONE, -1);
        Due.is("REFUSED", Belowhouse.REFUSED, -9);
    }

    /** Rule 1: no private method, here or in a class inside, bears the name of a public one. */
    private static void namesAreNotUsedTwice() {
        TreeSet<String> face = new TreeSet<>();
        for (String told : FACE) {
            face.add(told.substring(told.indexOf(' ') + 1, told.indexOf('(')));
        }
        List<Method> others = new ArrayList<>();
        for (Method method : Belowhouse.class.getDeclaredMethods()) {
            if (Modifier.isPrivate(method.getModifiers())) {
                others.add(method);
            }
        }
        for (Class<?> inside : Belowhouse.class.getDeclaredClasses()) {
            others.addAll(Arrays.asList(inside.getDeclaredMethods()));
        }
        for (Method method : others) {
            Due.isFalse(method + " bears a name of the face", face.contains(method.getName()));
        }
    }

    private FaceTest() {
    }
}
