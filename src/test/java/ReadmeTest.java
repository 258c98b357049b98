import java.io.ByteArrayOutputStream;
import java.io.IOException;
import java.io.PrintStream;
import java.lang.reflect.Method;
import java.lang.reflect.Modifier;
import java.nio.file.Files;
import java.nio.file.Path;
import java.util.ArrayList;
import java.util.List;
import java.util.TreeMap;
import java.util.regex.Matcher;
import java.util.regex.Pattern;

/** That README.md tells the truth: its example, and what the calls of the face throw. */
final class ReadmeTest {
    private static final Path README = Path.of("README.md");
    private static final Path EXAMPLE = Path.of("src/test/java/Example.java");
    private static final Pattern PRINTED = Pattern.compile("println\\(.*\\);\\s*// ([^:]+):");
    private static final Pattern CALL = Pattern.compile("\\| `(\\w+)\\((.*?)\\)` \\|.*\\|(.*)\\|");
    private static final Pattern THROWN = Pattern.compile("`(\\w+Exception)`");

    public static void main(String[] args) throws IOException {
        List<String> readme = Files.readAllLines(README);
        exampleIsTheFile(readme);
        exampleSaysWhatItPrints();
        callsAreTheFace(readme);
        Expect.finish();
    }

    private static void exampleIsTheFile(List<String> readme) throws IOException {
        int from = readme.indexOf("```java") + 1;
        List<String> rest = readme.subList(from, readme.size());
        Expect.same("the example in README.md", String.join("\n", Files.readAllLines(EXAMPLE)),
                String.join("\n", rest.subList(0, rest.indexOf("```"))));
    }

    private static void exampleSaysWhatItPrints() throws IOException {
        List<String> said = new ArrayList<>();
        for (String line : Files.readAllLines(EXAMPLE)) {
            Matcher printed = PRINTED.matcher(line);
            if (printed.find()) {
                said.add(printed.group(1));
            } else {
                Expect.same("prints without telling what:" + line, "false",
                        "" + line.contains("println"));
            }
        }
        Expect.same("what the example prints", said.toString(), printedByExample().toString());
    }

    private static List<String> printedByExample() {
        PrintStream before = System.out;
        ByteArrayOutputStream printed = new ByteArrayOutputStream();
        System.setOut(new PrintStream(printed, true));
        Example.main(new String[0]);
        System.setOut(before);
        return printed.toString().lines().toList();
    }

    private static void callsAreTheFace(List<String> readme) {
        TreeMap<String, String> told = new TreeMap<>();
        for (String line : readme) {
            Matcher call = CALL.matcher(line);
            if (call.matches()) {
                int arguments = call.group(2).isEmpty() ? 0 : call.group(2).split(", ").length;
                told.put(call.group(1), arguments + " arguments" + thrown(call.group(3)));
            }
        }
        Expect.same("the calls in README.md", face().toString(), told.toString());
    }

    private static String thrown(String text) {
        StringBuilder names = new StringBuilder();
        Matcher name = THROWN.matcher(text);
        while (name.find()) {
            names.append(' ').append(name.group(1));
        }
        return names.toString();
    }

    private static TreeMap<String, String> face() {
        TreeMap<String, String> face = new TreeMap<>();
        for (Method method : BitSolver.class.getDeclaredMethods()) {
            if (Modifier.isPublic(method.getModifiers())) {
                StringBuilder text = new StringBuilder();
                text.append(method.getParameterCount()).append(" arguments");
                for (Class<?> type : method.getExceptionTypes()) {
                    text.append(' ').append(type.getSimpleName());
                }
                face.put(method.getName(), text.toString());
            }
        }
        return face;
    }
}
