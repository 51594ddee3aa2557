import java.io.IOException;
import java.lang.reflect.Method;
import java.nio.file.Files;
import java.nio.file.Path;
import java.util.regex.Matcher;
import java.util.regex.Pattern;

/** Makes the calls of the README (from the project's directory), each held against the answer behind it. */
final class ReadmeTest {
    private static final Pattern NEW = Pattern.compile("PrisonWeddings x = new PrisonWeddings\\(\\);");
    private static final Pattern WRITTEN =
        Pattern.compile("for \\(char c : \"([^\"]*)\"\\.toCharArray\\(\\)\\) x\\.write\\(c\\);");
    private static final Pattern CALL =
        Pattern.compile("x\\.(\\w+)\\(([^)]*)\\); +// (-?\\d+|BAD|NO|NONE|FULL)(?:[:;] .+)?");
    private static final Due due = new Due();

    private PrisonWeddings x = new PrisonWeddings();
    private int calls = 0;

    public static void main(String[] args) throws IOException, ReflectiveOperationException {
        ReadmeTest test = new ReadmeTest();
        boolean inCode = false;
        for (String line : Files.readAllLines(Path.of("README.md"))) {
            if (line.startsWith("```")) {
                inCode = line.equals("```java");
            } else if (inCode) {
                test.go(line);
            }
        }
        test.everyCallIsThere();
        due.close("ReadmeTest");
    }

    private void go(String line) throws ReflectiveOperationException {
        due.part(line);
        Matcher written = WRITTEN.matcher(line), call = CALL.matcher(line);
        if (NEW.matcher(line).matches()) {
            x = new PrisonWeddings();
        } else if (written.matches()) {
            Play.writeAll(x, written.group(1));
        } else if (call.matches()) {
            due.same("it", answer(call.group(1), call.group(2)), number(call.group(3)));
            calls++;
        } else {
            due.same("a line that is no call", 1, 0);
        }
    }

    private long answer(String name, String told) throws ReflectiveOperationException {
        String[] numbers = told.isEmpty() ? new String[0] : told.split(", ");
        for (Method method : PrisonWeddings.class.getMethods()) {
            if (method.getName().equals(name) && method.getParameterCount() == numbers.length) {
                Object[] values = new Object[numbers.length];
                for (int i = 0; i < values.length; i++) {
                    boolean isFlag = method.getParameterTypes()[i] == boolean.class;
                    values[i] = isFlag ? (Object) Boolean.valueOf(numbers[i]) : (Object) Integer.valueOf(numbers[i]);
                }
                return (Integer) method.invoke(x, values);
            }
        }
        throw new IllegalStateException("no such call: " + name);
    }

    private static int number(String told) throws ReflectiveOperationException {
        return told.matches("-?\\d+") ? Integer.parseInt(told) : PrisonWeddings.class.getField(told).getInt(null);
    }

    private void everyCallIsThere() throws IOException {
        due.part("README.md");
        due.same("calls with their answers, 50 at least", calls >= 50 ? 1 : 0, 1);
        String page = Files.readString(Path.of("README.md"));
        for (Method method : PrisonWeddings.class.getDeclaredMethods()) {
            boolean isOpen = java.lang.reflect.Modifier.isPublic(method.getModifiers());
            boolean isTold = page.contains("x." + method.getName() + "(") || page.contains("`" + method.getName() + "(");
            due.same("tells of " + method.getName(), !isOpen || isTold ? 1 : 0, 1);
        }
    }
}
