import java.lang.reflect.Method;
import java.nio.file.Files;
import java.nio.file.Path;
import java.util.regex.Matcher;
import java.util.regex.Pattern;

/** Every answer that README.md tells behind a call is the one that the class gives; no call is left out there. */
public final class ReadmeTest {
    private static final Due due = new Due("ReadmeTest");
    private static final Path README = Path.of(System.getProperty("project", ".")).resolve("README.md");
    private static final Pattern BLOCK = Pattern.compile("(?s)```java\n(.*?)```");
    private static final Pattern LETTERS = Pattern.compile("for \\(char letter : \"(.*)\"\\.toCharArray\\(\\)\\) "
            + "x\\.feed\\(letter\\);");
    private static final Pattern CALL = Pattern.compile("x\\.(\\w+)\\(([-\\d, ]*)\\); +// (-?\\d+)\\b.*");
    private static int calls = 0;
    private static RailsOfIce x;

    public static void main(String[] args) throws Exception {
        String readme = Files.readString(README);
        Matcher block = BLOCK.matcher(readme);
        while (block.find()) {
            for (String row : block.group(1).split("\n")) {
                readRow(row.trim());
            }
        }
        due.holds("calls were found", calls > 30);
        for (Method method : RailsOfIce.class.getDeclaredMethods()) {
            due.holds("README.md names " + method.getName(), method.isSynthetic()
                    || !java.lang.reflect.Modifier.isPublic(method.getModifiers())
                    || readme.contains("`" + method.getName() + "`"));
        }
        due.end();
    }

    private static void readRow(String row) throws Exception {
        Matcher letters = LETTERS.matcher(row);
        Matcher call = CALL.matcher(row);
        if (row.equals("RailsOfIce x = new RailsOfIce();")) {
            x = new RailsOfIce();
        } else if (letters.matches()) {
            Worlds.feed(x, letters.group(1));
        } else if (call.matches()) {
            ask(call.group(1), call.group(2), Long.parseLong(call.group(3)));
        } else {
            due.holds("a row of README.md that is read: " + row, row.isEmpty() || row.startsWith("//"));
        }
    }

    private static void ask(String name, String told, long answer) throws Exception {
        String[] numbers = told.isEmpty() ? new String[0] : told.split(", *");
        Class<?>[] types = new Class<?>[numbers.length];
        Object[] arguments = new Object[numbers.length];
        for (int i = 0; i < numbers.length; i++) {
            types[i] = int.class;
            arguments[i] = Integer.parseInt(numbers[i]);
        }
        Object got = RailsOfIce.class.getMethod(name, types).invoke(x, arguments);
        due.is("README.md: " + name + "(" + told + ")", answer, ((Number) got).longValue());
        calls++;
    }
}
