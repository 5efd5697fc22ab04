import java.lang.reflect.Method;
import java.nio.file.Files;
import java.nio.file.Path;
import java.util.Arrays;
import java.util.regex.Matcher;
import java.util.regex.Pattern;

/** Promises 1 to 42: the run that README.md tells, line by line, answers what README.md says. */
final class ReadmeTest {
    private static final Check check = Check.begin();
    private static final Pattern FED = Pattern.compile("for \\(char c : \"([^\"]*)\"\\.toCharArray\\(\\)\\) \\{");
    private static final Pattern CALL = Pattern.compile("x\\.(\\w+)\\(([^)]*)\\); +// (-?\\d+): .+");

    private VoiceFall x;
    private String fed = "";

    public static void main(String[] args) throws Exception {
        ReadmeTest run = new ReadmeTest();
        boolean java = false;
        for (String line : Files.readAllLines(Path.of("README.md"))) {
            if (line.startsWith("```")) {
                java = line.equals("```java");
            } else if (java) {
                run.line(line.trim());
            }
        }
        check.finish(1, 42);
    }

    private void line(String line) throws ReflectiveOperationException {
        Matcher tape = FED.matcher(line);
        Matcher call = CALL.matcher(line);
        if (line.equals("VoiceFall x = new VoiceFall();")) {
            x = new VoiceFall();
            check.promise(1, "README.md");
            check.due("rule(0) of a new object", x.rule(0), 0);
        } else if (tape.matches()) {
            fed = tape.group(1);
        } else if (line.equals("x.feed(c);")) {
            Check.feed(x, fed);
        } else if (call.matches()) {
            check.promiseOf(call.group(1), "README.md");
            check.due(line, answer(call.group(1), call.group(2)), Long.parseLong(call.group(3)));
        } else {
            check.that("this line can be read: " + line, line.equals("}"));
        }
    }

    private long answer(String name, String told) throws ReflectiveOperationException {
        Object[] args = told.isEmpty() ? new Object[0] : Arrays.stream(told.split(", ")).map(ReadmeTest::value).toArray();
        for (Method m : VoiceFall.class.getMethods()) {
            if (m.getName().equals(name) && m.getParameterCount() == args.length) {
                return ((Number) m.invoke(x, args)).longValue();
            }
        }
        throw new IllegalStateException("there is no such call: " + name);
    }

    private static Object value(String told) {
        if (told.equals("true") || told.equals("false")) {
            return Boolean.valueOf(told);
        }
        return told.startsWith("'") ? told.charAt(1) : Integer.parseInt(told);
    }
}
