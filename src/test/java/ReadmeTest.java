import java.io.IOException;
import java.lang.reflect.InvocationTargetException;
import java.lang.reflect.Method;
import java.lang.reflect.Modifier;
import java.nio.file.DirectoryStream;
import java.nio.file.Files;
import java.nio.file.Path;
import java.util.Set;
import java.util.TreeSet;
import java.util.regex.Matcher;
import java.util.regex.Pattern;

/** Makes the calls of README.md's example as they stand there, and looks whether it names all there is. */
public final class ReadmeTest {
    private static final Due due = new Due("ReadmeTest");
    private static final Pattern CALL = Pattern.compile("x\\.(\\w+)\\(([^)]*)\\); +// (-?\\d+|true|false)\\b.*");
    private static final Pattern TEXT = Pattern.compile("feedText\\(x, \"([^\"]*)\"\\);");

    public static void main(String[] args) throws IOException, ReflectiveOperationException {
        String readme = Files.readString(Path.of("README.md"));
        makeCalls(example(readme));
        namesEveryCall(readme);
        namesEveryTest(readme);
        due.end();
    }

    private static String example(String readme) {
        int from = readme.indexOf("```java\nTallerWitness x = new TallerWitness();\n");
        int to = from < 0 ? -1 : readme.indexOf("```\n", from + 3);
        due.is("there is an example", to > 0, true);
        return to > 0 ? readme.substring(from, to) : "";
    }

    private static void makeCalls(String example) throws ReflectiveOperationException {
        TallerWitness x = new TallerWitness();
        String[] lines = example.split("\n");
        for (int i = 2; i < lines.length; i++) {
            Matcher call = CALL.matcher(lines[i]);
            Matcher text = TEXT.matcher(lines[i]);
            if (text.matches()) {
                Due.feedText(x, text.group(1));
            } else if (call.matches()) {
                due.is(lines[i], answer(x, call.group(1), call.group(2)), number(call.group(3)));
            } else {
                due.is("a line that is no call: " + lines[i], lines[i].isEmpty(), true);
            }
        }
    }

    private static long answer(TallerWitness x, String name, String told) throws ReflectiveOperationException {
        String[] parts = told.isEmpty() ? new String[0] : told.split(", ");
        Class<?>[] types = new Class<?>[parts.length];
        Object[] values = new Object[parts.length];
        for (int i = 0; i < parts.length; i++) {
            types[i] = int.class;
            values[i] = Integer.valueOf(parts[i]);
        }
        try {
            return number(String.valueOf(TallerWitness.class.getMethod(name, types).invoke(x, values)));
        } catch (InvocationTargetException e) {
            throw new IllegalStateException(name + " has thrown", e);
        }
    }

    private static long number(String told) {
        return told.equals("true") ? 1 : told.equals("false") ? 0 : Long.parseLong(told);
    }

    private static void namesEveryCall(String readme) {
        Set<String> inExample = new TreeSet<>();
        Matcher calls = Pattern.compile("x\\.(\\w+)\\(").matcher(example(readme));
        while (calls.find()) {
            inExample.add(calls.group(1));
        }
        for (Method m : TallerWitness.class.getDeclaredMethods()) {
            if (Modifier.isPublic(m.getModifiers())) {
                due.is("README.md names " + m.getName(), readme.contains("`" + m.getName() + "`"), true);
                due.is("the example calls " + m.getName(), inExample.contains(m.getName()), true);
            }
        }
    }

    private static void namesEveryTest(String readme) throws IOException {
        try (DirectoryStream<Path> tests = Files.newDirectoryStream(Path.of("src/test/java"), "*Test.java")) {
            for (Path test : tests) {
                String name = test.getFileName().toString().replace(".java", "");
                due.is("README.md names " + name, readme.contains("| " + name + " |"), true);
            }
        }
    }
}
