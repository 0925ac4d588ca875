import java.io.IOException;
import java.lang.reflect.Method;
import java.nio.file.Files;
import java.nio.file.Path;
import java.util.regex.Matcher;
import java.util.regex.Pattern;

/** The examples of README.md: each call in them has its answer behind it, and that is the one it gives. */
public final class ReadmeTest {
    private static final Pattern BLOCK = Pattern.compile("(?s)```java\n(.*?)```");
    private static final Pattern CALL = Pattern.compile("x\\.(\\w+)\\(([^)]*)\\); +// (\\S+)");
    private static final Pattern TELL = Pattern.compile("Check\\.tell\\(x, \"([^\"]*)\"\\); +// (\\S+)");

    public static void main(String[] args) throws IOException, ReflectiveOperationException {
        Matcher blocks = BLOCK.matcher(Files.readString(Path.of("README.md")));
        int found = 0;
        while (blocks.find()) {
            found++;
            play(blocks.group(1));
        }
        Check.due("examples in README.md", found, 3);
        Check.end();
    }

    private static void play(String block) throws ReflectiveOperationException {
        HalfCitizen x = null;
        for (String line : block.split("\n")) {
            Matcher call = CALL.matcher(line);
            Matcher tell = TELL.matcher(line);
            if (line.equals("HalfCitizen x = new HalfCitizen();")) {
                x = new HalfCitizen();
            } else if (tell.matches()) {
                Check.due(line, Check.tell(x, tell.group(1)), Integer.parseInt(tell.group(2)));
            } else if (call.matches()) {
                String got = String.valueOf(ask(x, call.group(1), call.group(2)));
                Check.due(line + " (it is " + got + ")", got.equals(call.group(3)), true);
            } else {
                Check.due("a line that tells no answer: " + line, line.startsWith("//"), true);
            }
        }
    }

    private static Object ask(HalfCitizen x, String name, String arguments) throws ReflectiveOperationException {
        String[] words = arguments.isEmpty() ? new String[0] : arguments.split(", ");
        Class<?>[] types = new Class<?>[words.length];
        Object[] numbers = new Object[words.length];
        for (int i = 0; i < words.length; i++) {
            types[i] = int.class;
            numbers[i] = Integer.decode(words[i]);
        }
        Method method = HalfCitizen.class.getMethod(name, types);
        return method.invoke(x, numbers);
    }
}
