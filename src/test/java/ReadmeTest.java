import java.io.IOException;
import java.lang.reflect.InvocationTargetException;
import java.lang.reflect.Method;
import java.nio.charset.StandardCharsets;
import java.nio.file.Files;
import java.nio.file.Paths;
import java.util.regex.Matcher;
import java.util.regex.Pattern;

/** The calls that README.md shows, made in their order on one object, answer what it says. */
public final class ReadmeTest {
    private static final Pattern CALL =
            Pattern.compile("(?m)^works\\.(\\w+)\\(([-0-9, ]*)\\); *// (-?\\d+)(?=:)");

    public static void main(String[] args) throws IOException, ReflectiveOperationException {
        String text = new String(Files.readAllBytes(Paths.get("README.md")), StandardCharsets.UTF_8);
        PorcelainWorks works = new PorcelainWorks();
        Matcher matcher = CALL.matcher(text);
        int calls = 0;
        int wrong = 0;
        while (matcher.find()) {
            calls++;
            int got = answer(works, matcher.group(1), matcher.group(2));
            if (got != Integer.parseInt(matcher.group(3))) {
                wrong++;
                System.out.println(matcher.group(1) + "(" + matcher.group(2) + ") answered " + got
                        + ", README.md says " + matcher.group(3));
            }
        }
        if (calls != text.split("\nworks\\.", -1).length - 1) {
            wrong++;
            System.out.println("a call of README.md could not be read");
        }
        if (!text.contains("\n    .ci/run\n")) {
            wrong++;
            System.out.println("README.md does not tell the command that runs all tests");
        }
        System.out.println(wrong == 0 ? "all answers are as due" : wrong + " faults");
        if (wrong != 0) {
            System.exit(1);
        }
    }

    private static int answer(PorcelainWorks works, String name, String numbers)
            throws IllegalAccessException, InvocationTargetException {
        String[] parts = numbers.isEmpty() ? new String[0] : numbers.split(", *");
        Object[] given = new Object[parts.length];
        for (int i = 0; i < parts.length; i++) {
            given[i] = Integer.valueOf(parts[i]);
        }
        for (Method method : PorcelainWorks.class.getMethods()) {
            if (method.getName().equals(name) && method.getParameterCount() == given.length) {
                return (Integer) method.invoke(works, given);
            }
        }
        return Integer.MIN_VALUE;
    }
}
