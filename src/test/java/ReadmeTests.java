import java.io.ByteArrayOutputStream;
import java.io.IOException;
import java.io.PrintStream;
import java.lang.reflect.Method;
import java.lang.reflect.Modifier;
import java.nio.file.Files;
import java.nio.file.Path;
import java.util.ArrayList;
import java.util.List;
import java.util.regex.Matcher;
import java.util.regex.Pattern;

/** README.md shows the face, and its example is Example.java and answers as it says there. */
public final class ReadmeTests {
    private static final Pattern BLOCK = Pattern.compile("```java\n(.*?)```", Pattern.DOTALL);
    private static final Pattern METHOD = Pattern.compile("public \\w+ \\w+\\(");
    private static final Pattern SHOWN = Pattern.compile("show\\(base\\..*?; +// (-?\\w+)");

    public static void main(String[] args) throws IOException {
        Bench.watch();
        List<String> blocks = new ArrayList<>();
        Matcher matcher = BLOCK.matcher(textOf("README.md"));
        while (matcher.find()) {
            blocks.add(matcher.group(1));
        }
        Bench.sentence("README.md says how to use the class");
        Bench.due("README.md's blocks of Java", blocks.size(), 2);
        face(blocks.get(0));
        example(blocks.get(1));
        Bench.finish("ReadmeTests");
    }

    private static String textOf(String file) throws IOException {
        return Files.readString(Path.of(file)).replace("\r\n", "\n");
    }

    private static void face(String block) {
        Bench.sentence("its public face");
        int methods = 0;
        for (Method method : StrataBase.class.getDeclaredMethods()) {
            if (Modifier.isPublic(method.getModifiers())) {
                String told = "public " + method.getReturnType() + " " + method.getName() + "(";
                Bench.due("README.md tells " + told, block.contains(told), true);
                methods++;
            }
        }
        Bench.due("methods of README.md", METHOD.matcher(block).results().count(), methods);
    }

    private static void example(String block) throws IOException {
        Bench.sentence("with an example that answers as README.md says");
        Bench.due("the example is Example.java", block.equals(textOf("src/test/java/Example.java")), true);
        List<String> told = new ArrayList<>();
        Matcher matcher = SHOWN.matcher(block);
        while (matcher.find()) {
            told.add(matcher.group(1));
        }
        List<String> printed = linesOfExample();
        Bench.due("answers of the example", printed.size(), told.size());
        Bench.due("each answer is told", told.size(), block.split("show\\(base\\.").length - 1);
        for (int i = 0; i < Math.min(printed.size(), told.size()); i++) {
            Bench.due("answer " + i + " of the example", printed.get(i), told.get(i));
        }
    }

    private static List<String> linesOfExample() {
        PrintStream screen = System.out;
        ByteArrayOutputStream caught = new ByteArrayOutputStream();
        System.setOut(new PrintStream(caught, true));
        try {
            Example.main(new String[0]);
        } finally {
            System.setOut(screen);
        }
        return caught.toString().lines().toList();
    }
}
