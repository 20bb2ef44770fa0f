import java.lang.reflect.Method;
import java.nio.file.Files;
import java.nio.file.Path;
import java.util.regex.Matcher;
import java.util.regex.Pattern;

/** The example in README.md answers what it says: each call with the number behind its //. */
public final class ReadmeTest {
    private static final Pattern CALL = Pattern.compile("(?m)^s\\.(\\w+)\\((.*?)\\); +// (-?\\d+): .*$");
    private static final int LINES = 12;

    public static void main(String[] args) throws Exception {
        Bench bench = new Bench();
        bench.name = "README.md";
        Matcher call = CALL.matcher(Files.readString(Path.of("README.md")));
        int lines = 0;
        while (call.find()) {
            lines++;
            bench.due(call.group(1) + "(" + call.group(2) + ")", answer(bench.x, call.group(1), call.group(2)),
                    Long.parseLong(call.group(3)));
        }
        bench.due("the lines of the example", lines, LINES);
        Bench.tell("ReadmeTest");
    }

    private static long answer(LeastSums mine, String name, String told) throws Exception {
        String[] numbers = told.isEmpty() ? new String[0] : told.split(", *");
        Class<?>[] types = new Class<?>[numbers.length];
        Object[] given = new Object[numbers.length];
        for (int k = 0; k < numbers.length; k++) {
            types[k] = int.class;
            given[k] = Integer.decode(numbers[k]);
        }
        Method method = LeastSums.class.getMethod(name, types);
        return ((Number) method.invoke(mine, given)).longValue();
    }
}
