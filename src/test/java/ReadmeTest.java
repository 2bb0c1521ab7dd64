import java.io.IOException;
import java.lang.reflect.Method;
import java.nio.file.Files;
import java.nio.file.Path;
import java.util.regex.Matcher;
import java.util.regex.Pattern;

/** Does the calls that README.md shows, in their order on one object, and compares the answers that stand behind them. */
public final class ReadmeTest {
    private static final Pattern CALL = Pattern.compile("floor\\.(\\w+)\\(([^)]*)\\); +// (-?\\d+):? .*");
    private static final Pattern FEED = Pattern.compile("for \\(char c : \"([^\"]*)\"\\.toCharArray\\(\\)\\) floor\\.feed\\(c\\);");
    private static final int FEWEST = 20;
    private static int wrong = 0;
    private static int calls = 0;

    private static void fail(String what) {
        wrong++;
        System.out.println(what);
    }

    private static long answer(KinInTheHeap floor, String name, String[] numbers) throws ReflectiveOperationException {
        for (Method m : KinInTheHeap.class.getMethods()) {
            if (m.getName().equals(name) && m.getDeclaringClass() == KinInTheHeap.class) {
                Object[] all = new Object[numbers.length];
                for (int i = 0; i < numbers.length; i++) {
                    all[i] = Integer.valueOf(numbers[i].trim());
                }
                return ((Number) m.invoke(floor, all)).longValue();
            }
        }
        throw new NoSuchMethodException(name);
    }

    private static void line(KinInTheHeap floor, String line) throws ReflectiveOperationException {
        Matcher feed = FEED.matcher(line);
        if (feed.matches()) {
            for (char c : feed.group(1).toCharArray()) {
                floor.feed(c);
            }
            return;
        }
        Matcher call = CALL.matcher(line);
        if (!call.matches()) {
            fail("README.md: no call with its answer: " + line);
            return;
        }
        calls++;
        String[] numbers = call.group(2).isBlank() ? new String[0] : call.group(2).split(",");
        long got = answer(floor, call.group(1), numbers);
        if (got != Long.parseLong(call.group(3))) {
            fail("README.md: answered " + got + ": " + line);
        }
    }

    public static void main(String[] args) throws IOException, ReflectiveOperationException {
        KinInTheHeap floor = new KinInTheHeap();
        boolean shown = false;
        for (String line : Files.readAllLines(Path.of("README.md"))) {
            if (line.startsWith("```")) {
                shown = line.equals("```java");
            } else if (shown && !line.isBlank() && !line.startsWith("KinInTheHeap floor")) {
                line(floor, line);
            }
        }
        if (calls < FEWEST) {
            fail("README.md shows no more than " + calls + " calls");
        }
        System.out.println(wrong == 0 ? "README.md tells " + calls + " calls as they are" : wrong + " faults");
        if (wrong != 0) {
            System.exit(1);
        }
    }
}
