import java.io.IOException;
import java.lang.reflect.Field;
import java.lang.reflect.Method;
import java.lang.reflect.Modifier;
import java.nio.file.Files;
import java.nio.file.Path;
import java.util.Set;
import java.util.TreeSet;

/** The public face, and those rules of LANGUAGE.md that can be seen from outside or by single words. */
public final class FaceTest {
    private static final Due due = new Due("FaceTest");
    private static final String[] FACE = {"int person(int,int,int,int)", "boolean heels(int,int)", "boolean dies(int)",
        "int feed(int,int,int,int,int)", "int law(int,int)", "int tall(int)", "int top()", "int step(int,int)",
        "int oath(int,int)", "int swear(int,int)", "int holds(int)", "int year(int)", "int years(int)",
        "int tried(int,int)", "int chain(int,int)", "int safe(int,int,int)", "int cut(int)", "int soonest(int)",
        "int against(int,int,int,int)", "int whom(int,int,int)", "int sure(int)", "int found(int)", "int least()",
        "int sideBySide(int)", "boolean seed(int)", "int keep()", "boolean undo()", "int check(int)", "int count(int)"};

    public static void main(String[] args) throws IOException {
        methods();
        fields();
        classes();
        words(Files.readString(Path.of("src/main/java/TallerWitness.java")));
        due.end();
    }

    private static void methods() {
        Set<String> missing = new TreeSet<>(Set.of(FACE));
        Set<String> names = new TreeSet<>();
        for (Method m : TallerWitness.class.getDeclaredMethods()) {
            if (Modifier.isPrivate(m.getModifiers()) || m.isSynthetic()) {
                continue;
            }
            StringBuilder told = new StringBuilder(m.getReturnType() + " " + m.getName() + "(");
            for (int i = 0; i < m.getParameterCount(); i++) {
                told.append(i == 0 ? "" : ",").append(m.getParameterTypes()[i]);
            }
            due.is("the face has " + told + ")", missing.remove(told + ")"), true);
            due.is(told + " is public", Modifier.isPublic(m.getModifiers()), true);
            names.add(m.getName());
        }
        due.is("the face lacks " + missing, missing.isEmpty(), true);
        for (Method m : TallerWitness.class.getDeclaredMethods()) {
            boolean bears = Modifier.isPrivate(m.getModifiers()) && names.contains(m.getName());
            due.is("private " + m.getName() + " bears a public name", bears, false);
        }
        due.is("one constructor", TallerWitness.class.getDeclaredConstructors().length, 1);
        due.is("it is final", Modifier.isFinal(TallerWitness.class.getModifiers()), true);
    }

    private static void fields() {
        for (Field f : TallerWitness.class.getDeclaredFields()) {
            boolean isNone = f.getName().equals("NONE");
            due.is(f.getName() + " is private", Modifier.isPrivate(f.getModifiers()), !isNone);
            if (Modifier.isStatic(f.getModifiers())) {
                due.is(f.getName() + " is final", Modifier.isFinal(f.getModifiers()), true);
            }
        }
    }

    private static void classes() {
        Class<?>[] inside = TallerWitness.class.getDeclaredClasses();
        due.is("at most twelve classes", inside.length < 12, true);
        for (Class<?> c : inside) {
            due.is(c + " is static", Modifier.isStatic(c.getModifiers()), true);
            due.is(c + " is not public", Modifier.isPublic(c.getModifiers()), false);
            for (Field f : c.getDeclaredFields()) {
                boolean state = Modifier.isStatic(f.getModifiers()) && !Modifier.isFinal(f.getModifiers());
                due.is(c + " has static state", state, false);
            }
        }
    }

    private static void words(String source) {
        String code = source.replaceAll("(?s)/\\*.*?\\*/", "").replaceAll("//[^\n]*", "");
        String[] barred = {"throw", "try", "catch", "synchronized", "assert", "import", "package", "Exact", "->", "::",
            "System.out", "random", "Thread", "hashCode", "toString", "protected"};
        for (String word : barred) {
            boolean asWord = Character.isLetter(word.charAt(0))
                    ? code.matches("(?s).*\\b" + word.replace(".", "\\.") + "\\b.*")
                    : code.contains(word);
            due.is("the class uses " + word, asWord, false);
        }
    }
}
