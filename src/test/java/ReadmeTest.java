import java.io.IOException;
import java.lang.reflect.Method;
import java.nio.ByteBuffer;
import java.nio.charset.StandardCharsets;
import java.nio.file.Files;
import java.nio.file.Path;
import java.util.Set;
import java.util.TreeSet;
import java.util.regex.Matcher;
import java.util.regex.Pattern;

/** README.md tells how the class is used: its sky is told, and its calls are made as they stand there, in that order. */
public final class ReadmeTest {
    private static final Pattern SKY = Pattern.compile("(?s)```sky\n(.*?)```");
    private static final Pattern CALL = Pattern.compile("(?m)^\\| `x\\.(\\w+)\\(([^)]*)\\)` \\| *(\\S*) *\\|");

    public static void main(String[] args) throws IOException, ReflectiveOperationException {
        String page = Files.readString(Path.of("README.md"), StandardCharsets.ISO_8859_1);
        Matcher sky = SKY.matcher(page);
        Check.same("README.md tells a sky", sky.find(), true);
        TetherSky x = new TetherSky();
        Check.same("sky of README.md", tell(x, sky.group(1)), 0);
        Set<String> asked = new TreeSet<>(Set.of("feed", "sky", "fault"));
        Matcher call = CALL.matcher(page);
        while (call.find()) {
            asked.add(call.group(1));
            ask(x, call.group(1), call.group(2), call.group(3));
        }
        for (Method method : TetherSky.class.getMethods()) {
            boolean isOurs = method.getDeclaringClass() == TetherSky.class;
            Check.same(method.getName() + " stands in README.md", !isOurs || asked.contains(method.getName()), true);
        }
        Check.finish();
    }

    /** As README.md has it. */
    private static int tell(TetherSky x, String text) {
        byte[] bytes = text.getBytes(StandardCharsets.ISO_8859_1);
        ByteBuffer tape = ByteBuffer.allocate((bytes.length + 19) / 20 * 20).put(bytes).rewind();
        while (tape.hasRemaining()) {
            x.feed(tape.getInt(), tape.getInt(), tape.getInt(), tape.getInt(), tape.getInt());
        }
        return x.sky(bytes.length);
    }

    private static void ask(TetherSky x, String name, String given, String due) throws ReflectiveOperationException {
        Method method = named(name);
        Class<?>[] types = method.getParameterTypes();
        String[] texts = given.isEmpty() ? new String[0] : given.split(", ");
        Object[] values = new Object[types.length];
        Check.same(name + "(" + given + ") is given", texts.length, types.length);
        for (int i = 0; i < values.length; i++) {
            if (types[i] == boolean.class) {
                values[i] = Boolean.valueOf(texts[i]);
            } else {
                values[i] = Integer.valueOf(texts[i]);
            }
        }
        Object got = method.invoke(x, values);
        String shown = got == null ? "" : got.toString();
        Check.same(name + "(" + given + ") answered " + shown + ", README.md says " + due + ":", shown.equals(due), true);
    }

    private static Method named(String name) throws NoSuchMethodException {
        for (Method method : TetherSky.class.getMethods()) {
            if (method.getName().equals(name) && method.getDeclaringClass() == TetherSky.class) {
                return method;
            }
        }
        throw new NoSuchMethodException(name);
    }
}
