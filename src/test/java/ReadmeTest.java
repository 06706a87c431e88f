import java.lang.reflect.Method;
import java.nio.file.Files;
import java.nio.file.Path;
import java.util.regex.Matcher;
import java.util.regex.Pattern;

/** The examples in README.md: each call there answers the number that stands behind it. */
final class ReadmeTest {
    private static final String MADE = "PagePainter page = new PagePainter();";
    private static final Pattern CALL = Pattern.compile("page\\.(\\w+)\\(([-0-9, ]*)\\); *// (-?\\d+)(:.*)?");

    public static void main(String[] args) throws Exception {
        PagePainter page = null;
        boolean inExample = false;
        int examples = 0;
        for (String line : Files.readAllLines(Path.of("README.md"))) {
            if (line.startsWith("```")) {
                inExample = line.equals("```java");
                examples += inExample ? 1 : 0;
            } else if (inExample && line.equals(MADE)) {
                page = new PagePainter();
            } else if (inExample) {
                check(page, line);
            }
        }
        Due.is("examples in README.md", examples, 3);
        Due.end();
    }

    private static void check(PagePainter page, String line) throws Exception {
        Matcher call = CALL.matcher(line);
        boolean isCall = call.matches();
        Due.is("a call with its answer: " + line, isCall ? 1 : 0, 1);
        if (isCall) {
            Due.is("README.md: " + line, answer(page, call.group(1), call.group(2)), Long.parseLong(call.group(3)));
        }
    }

    private static long answer(PagePainter page, String name, String list) throws Exception {
        String[] words = list.isEmpty() ? new String[0] : list.split(", *");
        Class<?>[] types = new Class<?>[words.length];
        Object[] values = new Object[words.length];
        for (int n = 0; n < words.length; n++) {
            types[n] = int.class;
            values[n] = Integer.valueOf(words[n]);
        }
        Method method = PagePainter.class.getMethod(name, types);
        return ((Number) method.invoke(page, values)).longValue();
    }
}
