import java.io.IOException;
import java.io.PrintWriter;
import java.io.StringWriter;
import java.lang.reflect.Method;
import java.lang.reflect.Modifier;
import java.nio.file.Files;
import java.nio.file.Path;
import java.util.Arrays;
import java.util.Map;
import java.util.Optional;
import java.util.Set;
import java.util.TreeMap;
import java.util.TreeSet;
import java.util.regex.Matcher;
import java.util.regex.Pattern;
import java.util.spi.ToolProvider;

/** Rules of LANGUAGE.md that are seen in the compiled class: its calls, what it makes, how large its parts are. */
public final class RulesTest {
    private static final Due due = new Due("RulesTest");
    private static final int MOST_DEEP = 8;
    private static final int MOST_PARAMETERS = 7;
    private static final int MOST_FIELDS = 20;
    private static final int MOST_LINES = 60;
    /** Of what rule 4 lists, as much as the class uses; another one is added here only if it is listed there. */
    private static final Set<String> LIBRARY = Set.of("java/lang/Object.<init>", "java/lang/Integer.bitCount",
        "java/lang/Math.max", "java/lang/Math.min", "java/lang/String.indexOf", "java/lang/String.length",
        "java/lang/System.arraycopy");
    private static final Pattern CLASS = Pattern.compile("^(?:\\w+ )*class (\\S+?) ?\\{?$");
    private static final Pattern HEAD = Pattern.compile("^  (?:[\\w.$\\[\\]]+ )*([\\w.$]+)\\(.*\\);$");
    private static final Pattern CALL = Pattern.compile("// (?:Interface)?Method (\\S+?):");
    private static final Pattern MAKES = Pattern.compile("^ +\\d+: (new|newarray|anewarray|multianewarray)\\b.*");

    /** Each method, by class and name, with those that it calls. */
    private static final Map<String, Set<String>> calls = new TreeMap<>();

    public static void main(String[] args) throws IOException {
        sizes();
        lengths(Files.readString(Path.of("src/main/java/TallerWitness.java")));
        Optional<ToolProvider> javap = ToolProvider.findFirst("javap");
        if (javap.isPresent()) {
            readCode(javap.get());
            library();
            depth();
        } else {
            System.out.println("RulesTest: this Java has no javap, so the calls are not looked at");
        }
        due.end();
    }

    private static void sizes() {
        for (Class<?> c : TallerWitness.class.getNestMembers()) {
            for (Method m : c.getDeclaredMethods()) {
                due.is("parameters of " + m, m.getParameterCount() <= MOST_PARAMETERS, true);
            }
            long fields = Arrays.stream(c.getDeclaredFields()).filter(f -> !Modifier.isStatic(f.getModifiers())).count();
            due.is("fields of " + c, fields <= MOST_FIELDS, true);
        }
    }

    /** A method opens with a line that has ( ) and { and ends with a } at the same place. */
    private static void lengths(String source) {
        Pattern head = Pattern.compile("^( {4}| {8})\\w[^=;]*\\(.*\\{$");
        String[] lines = source.split("\n");
        int methods = 0;
        for (int i = 0; i < lines.length; i++) {
            Matcher m = head.matcher(lines[i]);
            if (m.matches() && !lines[i].trim().matches("(if|for|while|switch) .*")) {
                int end = i;
                while (end < lines.length && !lines[end].equals(m.group(1) + "}")) {
                    end++;
                }
                methods++;
                due.is("lines of " + lines[i].trim(), end - i < MOST_LINES, true);
            }
        }
        due.is("methods are found", methods > 90, true);
    }

    private static void readCode(ToolProvider javap) {
        String classes = RulesTest.class.getProtectionDomain().getCodeSource().getLocation().getPath();
        for (Class<?> c : TallerWitness.class.getNestMembers()) {
            StringWriter told = new StringWriter();
            PrintWriter to = new PrintWriter(told);
            javap.run(to, to, "-p", "-c", "-cp", classes, c.getName());
            readClass(c.getName(), told.toString());
        }
        due.is("methods are found in the compiled class", calls.size() > 90, true);
    }

    private static void readClass(String name, String code) {
        String method = "";
        boolean seen = false;
        for (String line : code.split("\\R")) {
            Matcher head = HEAD.matcher(line);
            Matcher call = CALL.matcher(line);
            Matcher opens = CLASS.matcher(line);
            seen |= opens.matches() && opens.group(1).equals(name);
            if (head.matches()) {
                boolean makes = head.group(1).equals(name);
                method = name + "." + (makes ? "<init>" : head.group(1));
                calls.computeIfAbsent(method, m -> new TreeSet<>());
            } else if (call.find()) {
                String called = call.group(1).replace("\"", "");
                calls.get(method).add(called.contains(".") ? called : name + "." + called);
            }
            if (MAKES.matcher(line).matches()) {
                due.is(method + " makes something: " + line.trim(), method.endsWith(".<init>"), true);
            }
        }
        due.is("the code of " + name + " is told", seen, true);
    }

    private static void library() {
        for (Map.Entry<String, Set<String>> method : calls.entrySet()) {
            for (String called : method.getValue()) {
                boolean own = calls.containsKey(called);
                due.is(method.getKey() + " calls " + called, own || LIBRARY.contains(called), true);
            }
        }
    }

    /** Methods that call one another count as one, as recursion has a rule of its own. */
    private static void depth() {
        Map<String, Set<String>> reach = new TreeMap<>();
        for (String method : calls.keySet()) {
            Set<String> reached = new TreeSet<>();
            addReach(method, reached);
            reach.put(method, reached);
        }
        for (String method : calls.keySet()) {
            int deep = deepest(method, reach, new TreeSet<>());
            due.is(method + " goes " + deep + " deep", deep <= MOST_DEEP, true);
        }
    }

    private static void addReach(String method, Set<String> reached) {
        for (String called : calls.get(method)) {
            if (calls.containsKey(called) && reached.add(called)) {
                addReach(called, reached);
            }
        }
    }

    private static int deepest(String method, Map<String, Set<String>> reach, Set<String> sameCycle) {
        sameCycle.add(method);
        int below = 0;
        for (String called : calls.get(method)) {
            if (!calls.containsKey(called) || sameCycle.contains(called)) {
                continue;
            }
            boolean oneCycle = reach.get(called).contains(method);
            int deep = deepest(called, reach, oneCycle ? sameCycle : new TreeSet<>());
            below = Math.max(below, oneCycle ? deep - 1 : deep);
        }
        return below + 1;
    }
}
