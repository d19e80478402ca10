import java.io.IOException;
import java.lang.reflect.InvocationTargetException;
import java.lang.reflect.Method;
import java.nio.file.Files;
import java.nio.file.Path;
import java.util.ArrayList;
import java.util.List;
import java.util.TreeSet;
import java.util.regex.Matcher;
import java.util.regex.Pattern;

/** Does the calls that README.md shows, line by line, and compares what it says that they answer or throw. */
public final class ReadmeTest {
    private static final String MAKE = "PackedBytes x = new PackedBytes();";
    private static final Pattern CALL = Pattern.compile("x\\.(\\w+)\\(([^()]*)\\);(?:\\s*// (.+))?");
    private static final Pattern ANSWER = Pattern.compile("(NONE|-?\\d+|0x[0-9A-F]+)\\b.*");
    private static final Pattern THROWS = Pattern.compile("throws (\\w+)\\b.*");

    private static final TreeSet<String> shown = new TreeSet<>();
    private static PackedBytes x = null;

    public static void main(String[] args) throws IOException, ReflectiveOperationException {
        List<String> lines = javaLines(Files.readAllLines(Path.of("README.md")));
        for (String line : lines) {
            Matcher call = CALL.matcher(line);
            if (line.equals(MAKE)) {
                x = new PackedBytes();
            } else if (x != null && call.matches()) {
                doCall(line, call.group(1), call.group(2), call.group(3) == null ? "" : call.group(3));
            } else {
                Due.due("README.md: '" + line + "' is a call of x", 0, 1);
            }
        }
        Due.due("README.md: lines are at most 512 calls", lines.size() <= 512 ? 1 : 0, 1);
        TreeSet<String> face = new TreeSet<>();
        for (Method m : PackedBytes.class.getMethods()) {
            if (m.getDeclaringClass() == PackedBytes.class) {
                face.add(m.getName());
            }
        }
        face.removeAll(shown);
        Due.due("README.md: calls that it does not show " + face, face.size(), 0);
        Due.finish("ReadmeTest");
    }

    private static List<String> javaLines(List<String> text) {
        List<String> lines = new ArrayList<>();
        boolean inside = false;
        for (String line : text) {
            if (line.startsWith("```")) {
                inside = line.equals("```java");
            } else if (inside) {
                lines.add(line.trim());
            }
        }
        return lines;
    }

    private static void doCall(String line, String name, String list, String remark) throws ReflectiveOperationException {
        shown.add(name);
        String[] words = list.isEmpty() ? new String[0] : list.split(", ");
        Object[] arguments = new Object[words.length];
        Class<?>[] types = new Class<?>[words.length];
        for (int i = 0; i < words.length; i++) {
            arguments[i] = (int) number(words[i]);
            types[i] = int.class;
        }
        String thrown = "nothing";
        Object answer = null;
        Method method = PackedBytes.class.getMethod(name, types);
        try {
            answer = method.invoke(x, arguments);
        } catch (InvocationTargetException e) {
            thrown = e.getCause().getClass().getSimpleName();
        }
        Matcher due = THROWS.matcher(remark);
        String dueThrown = due.matches() ? due.group(1) : "nothing";
        Due.due("README.md: " + line + " throws " + thrown, thrown.equals(dueThrown) ? 1 : 0, 1);
        if (method.getReturnType() != void.class && dueThrown.equals("nothing")) {
            dueAnswer(line, answer, remark);
        }
    }

    private static void dueAnswer(String line, Object answer, String remark) {
        Matcher due = ANSWER.matcher(remark);
        boolean tells = due.matches();
        Due.due("README.md: " + line + " tells an answer", tells ? 1 : 0, 1);
        if (tells && answer instanceof Number) {
            Due.due("README.md: " + line, ((Number) answer).longValue(), number(due.group(1)));
        }
    }

    private static long number(String word) {
        if (word.equals("NONE")) {
            return PackedBytes.NONE;
        }
        return word.startsWith("0x") ? Long.parseLong(word.substring(2), 16) : Long.parseLong(word);
    }
}
