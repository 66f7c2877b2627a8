import java.lang.reflect.Method;
import java.lang.reflect.Modifier;
import java.nio.file.Files;
import java.nio.file.Path;
import java.util.Set;
import java.util.TreeSet;
import java.util.regex.Matcher;
import java.util.regex.Pattern;

/** README.md: its example answers what it says there, and its table has every call of the face. */
final class ReadmeTest {
    private static final Due due = new Due("ReadmeTest");

    private ReadmeTest() {
    }

    public static void main(String[] args) throws Exception {
        String text = Files.readString(Path.of("README.md"));
        example(text);
        table(text);
        due.end();
    }

    private static void example(String text) throws Exception {
        due.part("the example");
        Matcher block = Pattern.compile("(?s)```java\n(.*?)```").matcher(text);
        due.holds("there is an example", block.find());
        String[] lines = block.group(1).split("\n");
        due.holds("it begins with a new object", lines[0].equals("FieldTiles x = new FieldTiles();"));
        FieldTiles x = new FieldTiles();
        for (int i = 1; i < lines.length; i++) {
            Matcher line = Pattern.compile("x\\.(\\w+)\\((.*?)\\); +// (-?\\d+)\\b.*").matcher(lines[i]);
            due.holds("a call and its answer stand in: " + lines[i], line.matches());
            due.is(lines[i], Call.answer(x, line.group(1), arguments(line.group(2))), Long.parseLong(line.group(3)));
        }
    }

    private static Object[] arguments(String written) {
        String[] parts = written.isEmpty() ? new String[0] : written.split(", ");
        Object[] arguments = new Object[parts.length];
        for (int i = 0; i < parts.length; i++) {
            boolean isTruth = parts[i].equals("true") || parts[i].equals("false");
            arguments[i] = isTruth ? (Object) Boolean.valueOf(parts[i]) : (Object) Integer.valueOf(parts[i]);
        }
        return arguments;
    }

    private static void table(String text) {
        due.part("the table");
        Set<String> face = new TreeSet<>();
        for (Method method : FieldTiles.class.getDeclaredMethods()) {
            if (Modifier.isPublic(method.getModifiers())) {
                face.add(method.getName() + " of " + method.getParameterCount());
            }
        }
        Set<String> told = new TreeSet<>();
        Matcher call = Pattern.compile("`(\\w+)\\(([^)]*)\\)`").matcher(text);
        while (call.find()) {
            told.add(call.group(1) + " of " + (call.group(2).isEmpty() ? 0 : call.group(2).split(", ").length));
        }
        due.holds("it has every call: " + told, told.containsAll(face));
    }
}
