import java.io.IOException;
import java.lang.reflect.Array;
import java.lang.reflect.Field;
import java.lang.reflect.Method;
import java.lang.reflect.Modifier;
import java.nio.charset.StandardCharsets;
import java.nio.file.Files;
import java.nio.file.Path;
import java.util.ArrayList;
import java.util.IdentityHashMap;
import java.util.List;
import java.util.Map;
import java.util.regex.Matcher;
import java.util.regex.Pattern;

/** What of LANGUAGE.md can be seen by the class's lines and members; it runs in the project's folder, as .ci/run does. */
public final class LanguageTest {
    private static final Path CLASS = Path.of("src", "main", "java", "TetherSky.java");

    public static void main(String[] args) throws IOException {
        String whole = Files.readString(CLASS, StandardCharsets.ISO_8859_1);
        String code = withoutComments(whole);
        writtenSigns(whole);
        library(code);
        words(code);
        exceptions(code);
        methods(code);
        makes(code);
        room();
        List<Class<?>> classes = new ArrayList<>(List.of(TetherSky.class.getDeclaredClasses()));
        classes.add(TetherSky.class);
        Check.same("some twelve classes", classes.size() <= 12, true);
        for (Class<?> one : classes) {
            members(one);
        }
        Check.finish();
    }

    private static String withoutComments(String text) {
        return text.replaceAll("(?s)/\\*.*?\\*/", "").replaceAll("//[^\n]*", "");
    }

    private static void absent(String what, String code, String pattern) {
        Matcher found = Pattern.compile(pattern).matcher(code);
        boolean there = found.find();
        Check.same(what + (there ? ": " + found.group() : ""), there, false);
    }

    /** Rule 4: "constants, whose signs are 1 to 127". */
    private static void writtenSigns(String whole) {
        absent("a sign beyond 127", whole, "[^\\x01-\\x7f]");
        absent("a package line", whole, "(?m)^package");
    }

    /** Rules 4 and 13: nothing of the library but what the class needs. */
    private static void library(String code) {
        Matcher imports = Pattern.compile("(?m)^import (.*);$").matcher(code);
        while (imports.find()) {
            Check.same("import " + imports.group(1), imports.group(1).equals("java.util.NoSuchElementException"), true);
        }
        absent("another class of the library", code,
                "\\b(?!Math\\.(max|min|abs)\\(|Integer\\.bitCount\\(|System\\.arraycopy\\(|State\\.|Tokens\\.|Rule\\.|Winching\\.)"
                        + "[A-Z]\\w*[a-z]\\w*\\.\\w+");
        absent("a full name", code.replaceAll("(?m)^import.*$", ""), "\\bjava\\.");
    }

    /** Rules 2, 3, 5, 6 and 10. */
    private static void words(String code) {
        absent("a lambda", code, "->");
        absent("a method reference", code, "::");
        absent("a word that rules 2, 3 and 6 leave out", code,
                "\\b(double|float|try|catch|finally|synchronized|assert|instanceof|var|yield|volatile|native|strictfp)\\b");
        absent("an initialiser block", code, "static\\s*\\{");
        absent("a text joined by +", code, "\"\\s*\\+|\\+\\s*\"");
        absent("an array of two dimensions", code, "\\[\\]\\s*\\[\\]|\\]\\[");
    }

    /** Rule 6: "throw new E() or throw new E("a written text")". */
    private static void exceptions(String code) {
        Matcher thrown = Pattern.compile("\\bthrow\\b[^;]*;").matcher(code);
        int many = 0;
        while (thrown.find()) {
            many++;
            Check.same(thrown.group(), thrown.group()
                    .matches("throw new (NoSuchElementException|IllegalArgumentException)\\(\"[^\"]*\"\\);"), true);
        }
        Check.same("some are thrown", many > 0, true);
    }

    /** Rule 11: "Methods stay short (some sixty lines)". */
    private static void methods(String code) {
        String[] lines = code.split("\n");
        int start = -1;
        String indent = "";
        for (int i = 0; i < lines.length; i++) {
            Matcher head = Pattern.compile("^( {4}| {8})(\\w[^;=]*\\([^;]*|\\w+.*) \\{$").matcher(lines[i]);
            if (start < 0 && head.find() && lines[i].contains("(") && !lines[i].contains(" class ")) {
                start = i;
                indent = head.group(1);
            }
            if (start >= 0 && lines[i].equals(indent + "}")) {
                Check.same("lines of " + lines[start].trim(), i - start + 1 <= 60, true);
                start = -1;
            }
        }
    }

    /** Rule 12, and "make rows in constructors and use them again": what isn't an exception is made with its object. */
    private static void makes(String code) {
        String rest = code.replaceAll("throw new \\w+", "throw").replaceAll("=\\s+new ", "= new ");
        Matcher made = Pattern.compile("(?m)^.*\\bnew\\b.*$").matcher(rest);
        while (made.find()) {
            Check.same("made with its object: " + made.group().trim(),
                    made.group().matches("( {4}| {8})(private )?(final )?[\\w\\[\\]]+ \\w+ = new .*;"), true);
        }
    }

    /** All calls of a run live in one room: an object takes little of it when it is made, and no more behind calls. */
    private static void room() {
        TetherSky x = new TetherSky();
        long[] made = roomOf(x);
        Check.same("a thousand find room, of objects and arrays: " + made[0], made[0] <= 600, true);
        Check.same("a thousand find room, of fields and elements: " + made[1], made[1] <= 7300, true);
        String text = "isle 1 1 9 9 2 3 0 1;isle 2 2 9 9 2 3 0 1;push 9*(lift-2);";
        for (int i = 0; i < 40; i++) {
            Check.feed(x, text);
            Check.same("sky behind calls", x.sky(i == 20 ? 3 : text.length()), i == 20 ? 1 : 0);
            x.winch(0, 30);
            x.image();
            x.least(0, 5, 2, false);
            x.cross(0, true);
            x.see(0, 0, 1);
            x.week(i, -1);
            x.restore();
        }
        Check.sameRow("room behind calls", roomOf(x), made);
    }

    /** How many objects and arrays hang on an object, and how many fields and elements they have. */
    private static long[] roomOf(Object whole) {
        Map<Object, Boolean> seen = new IdentityHashMap<>();
        List<Object> open = new ArrayList<>(List.of(whole));
        seen.put(whole, true);
        long parts = 0;
        for (int i = 0; i < open.size(); i++) {
            Object one = open.get(i);
            if (one.getClass().isArray()) {
                parts += Array.getLength(one);
            }
            for (Field field : one.getClass().isArray() ? new Field[0] : one.getClass().getDeclaredFields()) {
                if (!Modifier.isStatic(field.getModifiers())) {
                    parts++;
                    Object held = held(field, one);
                    if (held != null && !field.getType().isPrimitive() && seen.put(held, true) == null) {
                        open.add(held);
                    }
                }
            }
        }
        return new long[] {open.size(), parts};
    }

    private static Object held(Field field, Object of) {
        try {
            field.setAccessible(true);
            return field.get(of);
        } catch (IllegalAccessException e) {
            throw new IllegalStateException(e);
        }
    }

    /** Rules 5 and 11: static fields are final, a class has some twenty fields, a method seven parameters. */
    private static void members(Class<?> one) {
        int fields = 0;
        for (Field field : one.getDeclaredFields()) {
            if (Modifier.isStatic(field.getModifiers())) {
                Class<?> type = field.getType();
                Check.same(field + " is final", Modifier.isFinal(field.getModifiers()), true);
                Check.same(field + " is a constant", type == int.class || type == String.class, true);
            } else {
                fields++;
            }
        }
        Check.same("fields of " + one, fields <= 20, true);
        for (Method method : one.getDeclaredMethods()) {
            Check.same("parameters of " + method, method.getParameterCount() <= 7, true);
        }
    }
}
