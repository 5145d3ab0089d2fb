import java.io.IOException;
import java.lang.reflect.Method;
import java.lang.reflect.Modifier;
import java.nio.file.Files;
import java.nio.file.Path;
import java.util.Arrays;
import java.util.regex.Matcher;
import java.util.regex.Pattern;

/** README.md says how to use the class: its example has to answer so, and no call may be left out. */
final class ReadmeTest {
    private static final Due DUE = new Due("ReadmeTest");
    private static final Pattern EXAMPLE = Pattern.compile("(?m)^loom\\.(\\w+)\\(([^)]*)\\);\\s+// (-?\\d+)\\b");

    public static void main(String[] args) throws IOException {
        String text = Files.readString(Path.of("README.md"));
        exampleAnswersSo(text);
        eachCallIsNamed(text);
        eachTestIsNamed(text);
        DUE.end();
    }

    private static void exampleAnswersSo(String text) {
        TreadleKernels loom = new TreadleKernels();
        Matcher line = EXAMPLE.matcher(text);
        int lines = 0;
        while (line.find()) {
            long[] numbers = new long[3];
            String[] told = line.group(2).isEmpty() ? new String[0] : line.group(2).split(", ");
            for (int i = 0; i < told.length; i++) numbers[i] = Long.decode(told[i]);
            int call = Arrays.asList(Calls.NAMES).indexOf(line.group(1));
            int answer = Calls.ask(loom, call, (int) numbers[0], (int) numbers[1], (int) numbers[2], numbers[0]);
            DUE.is(line.group(), answer, Integer.parseInt(line.group(3)));
            lines++;
        }
        DUE.is("lines of the example", lines, text.split("(?m)^loom\\.").length - 1);
        DUE.is("lines enough", lines > 4 ? 1 : 0, 1);
    }

    private static void eachCallIsNamed(String text) {
        for (Method method : TreadleKernels.class.getDeclaredMethods()) {
            if (!Modifier.isPublic(method.getModifiers())) continue;
            DUE.is(method.getName() + " stands there", text.contains("`" + method.getName() + "`") ? 1 : 0, 1);
        }
    }

    private static void eachTestIsNamed(String text) throws IOException {
        try (var files = Files.list(Path.of("src/test/java"))) {
            for (Path file : (Iterable<Path>) files::iterator) {
                String name = file.getFileName().toString().replace(".java", "");
                DUE.is(name + " stands there", text.contains("`" + name + "`") ? 1 : 0, 1);
            }
        }
    }
}
