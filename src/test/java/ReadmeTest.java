import java.lang.reflect.InvocationTargetException;
import java.lang.reflect.Method;
import java.nio.charset.StandardCharsets;
import java.nio.file.Files;
import java.nio.file.Path;
import java.util.regex.Matcher;
import java.util.regex.Pattern;

/** README.md's lines of calls, read from it and done: each answer is the one it shows; run from the project's folder. */
public final class ReadmeTest {
    private static final Pattern BLOCK = Pattern.compile("(?s)```java\n(.*?)```");
    private static final Pattern LOOP = Pattern.compile("for \\(int value = (\\d+); value <= (\\d+); value\\+\\+\\) \\{");
    private static final Pattern CALL = Pattern.compile("pages\\.(\\w+)\\(([^)]*)\\); *// (-?\\d+|true|false)(:.*)?");

    private MeshedPages pages;
    private int first;
    private int last;

    public static void main(String[] args) throws Exception {
        String page = Files.readString(Path.of("README.md"), StandardCharsets.UTF_8);
        Matcher block = BLOCK.matcher(page);
        int blocks = 0;
        while (block.find()) {
            new ReadmeTest().play(block.group(1));
            blocks++;
        }
        Due.is("blocks of calls", blocks, 4);
        Due.holds("it tells how tests are run", page.contains(".ci/run") && page.contains("src/test/java"));
        Due.end();
    }

    private void play(String lines) throws Exception {
        for (String line : lines.split("\n")) {
            Matcher loop = LOOP.matcher(line);
            Matcher call = CALL.matcher(line);
            if (line.equals("MeshedPages pages = new MeshedPages();")) {
                pages = new MeshedPages();
            } else if (loop.matches()) {
                first = Integer.parseInt(loop.group(1));
                last = Integer.parseInt(loop.group(2));
            } else if (line.equals("    pages.give(value);")) {
                for (int value = first; value <= last; value++) {
                    Due.holds("give(" + value + ")", pages.give(value) != MeshedPages.NONE);
                }
            } else if (call.matches()) {
                Due.holds(line, String.valueOf(answer(call.group(1), call.group(2))).equals(call.group(3)));
            } else {
                Due.holds("a line that can be read: " + line, line.equals("}"));
            }
        }
    }

    private Object answer(String name, String words) throws IllegalAccessException, InvocationTargetException {
        String[] given = words.isEmpty() ? new String[0] : words.split(", *");
        for (Method method : MeshedPages.class.getMethods()) {
            if (method.getName().equals(name) && method.getParameterCount() == given.length) {
                Object[] arguments = new Object[given.length];
                for (int i = 0; i < given.length; i++) {
                    arguments[i] = Integer.decode(given[i]);
                }
                return method.invoke(pages, arguments);
            }
        }
        return null;
    }
}
