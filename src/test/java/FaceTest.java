import java.lang.reflect.Constructor;
import java.lang.reflect.Field;
import java.lang.reflect.Method;
import java.lang.reflect.Modifier;
import java.util.Arrays;
import java.util.HashSet;
import java.util.NoSuchElementException;
import java.util.Set;
import java.util.TreeSet;

/** The face is the document's, and nothing else of the class can be seen (LANGUAGE.md, rule 1). */
public final class FaceTest {
    /** NoSuch is NoSuchElementException, Illegal IllegalArgumentException. */
    private static final String[] FACE = {
        "int feed(int,int,int,int,int)",
        "int sky(int) throws Illegal",
        "int fault()",
        "int count(int) throws NoSuch",
        "int isle(int,int) throws NoSuch",
        "int wind(int,int) throws NoSuch",
        "int where(int,int,int) throws NoSuch",
        "boolean between(int,int,int,int) throws NoSuch, Illegal",
        "int rain(int,int) throws NoSuch",
        "int winch(int,int) throws NoSuch",
        "int knot(int,boolean) throws NoSuch",
        "int load(int,int) throws NoSuch",
        "boolean goat(int,int,int) throws NoSuch",
        "int walk(int,int,int,int) throws NoSuch",
        "int undo()",
        "int knock(int,int,int) throws NoSuch, Illegal",
        "int shade(int,int,int) throws NoSuch, Illegal",
        "int wet(int,int,int) throws NoSuch, Illegal",
        "int winds(int,int,int,int) throws NoSuch, Illegal",
        "int least(int,int,int,boolean) throws Illegal",
        "int rope(int) throws NoSuch",
        "int way(int,int,int,int) throws NoSuch",
        "int cross(int,boolean)",
        "int uncross()",
        "int freed(int) throws NoSuch",
        "int tangle(int,int) throws NoSuch",
        "int see(int,int,int) throws NoSuch",
        "int fits(int) throws NoSuch",
        "int weighed(int,int,int,int) throws NoSuch",
        "int gust(int,int) throws NoSuch",
        "long calm(int,int,int) throws NoSuch, Illegal",
        "int view(int,int,int) throws NoSuch",
        "int debt(int,int,int,int) throws NoSuch, Illegal",
        "int rich(int,int) throws Illegal",
        "int week(int,int) throws NoSuch",
        "void image()",
        "boolean restore()",
    };

    public static void main(String[] args) {
        Class<?> face = TetherSky.class;
        Check.same("the class is public and final",
                Modifier.isPublic(face.getModifiers()) && Modifier.isFinal(face.getModifiers()), true);
        Set<String> seen = new TreeSet<>();
        Set<String> publicNames = new HashSet<>();
        for (Method method : face.getDeclaredMethods()) {
            if (!Modifier.isPrivate(method.getModifiers())) {
                seen.add(shown(method));
                publicNames.add(method.getName());
                Check.same(method + " is public and of an object", method.getModifiers(), Modifier.PUBLIC);
            }
        }
        Check.same("the methods are " + seen, seen.equals(new TreeSet<>(Arrays.asList(FACE))), true);
        checkPrivateNames(face, publicNames);
        checkFields(face);
        Constructor<?>[] made = face.getDeclaredConstructors();
        Check.same("one constructor", made.length, 1);
        Check.same("it is public", Modifier.isPublic(made[0].getModifiers()), true);
        Check.same("it takes nothing", made[0].getParameterCount(), 0);
        Check.same("NONE", TetherSky.NONE, -1);
        Check.finish();
    }

    private static void checkPrivateNames(Class<?> face, Set<String> publicNames) {
        for (Class<?> inside : face.getDeclaredClasses()) {
            Check.same(inside + " is static", Modifier.isStatic(inside.getModifiers()), true);
            Check.same(inside + " is no part of the face",
                    inside.getModifiers() & (Modifier.PUBLIC | Modifier.PROTECTED), 0);
            for (Method method : inside.getDeclaredMethods()) {
                Check.same(method + " has a name of its own", publicNames.contains(method.getName()), false);
            }
        }
        for (Method method : face.getDeclaredMethods()) {
            boolean hidden = Modifier.isPrivate(method.getModifiers());
            Check.same(method + " has a name of its own", hidden && publicNames.contains(method.getName()), false);
        }
    }

    private static void checkFields(Class<?> face) {
        for (Field field : face.getDeclaredFields()) {
            boolean isConstant = field.getName().equals("NONE");
            Check.same(field + " is private, unless it is a constant",
                    Modifier.isPrivate(field.getModifiers()), !isConstant);
            if (Modifier.isStatic(field.getModifiers())) {
                Check.same(field + " is final", Modifier.isFinal(field.getModifiers()), true);
            }
        }
    }

    private static String shown(Method method) {
        StringBuilder text = new StringBuilder();
        text.append(method.getReturnType().getName()).append(' ').append(method.getName()).append('(');
        Class<?>[] taken = method.getParameterTypes();
        for (int i = 0; i < taken.length; i++) {
            text.append(i == 0 ? "" : ",").append(taken[i].getName());
        }
        text.append(')');
        Class<?>[] thrown = method.getExceptionTypes();
        for (int i = 0; i < thrown.length; i++) {
            text.append(i == 0 ? " throws " : ", ");
            text.append(thrown[i] == NoSuchElementException.class ? "NoSuch"
                    : thrown[i] == IllegalArgumentException.class ? "Illegal" : thrown[i].getName());
        }
        return text.toString();
    }
}
