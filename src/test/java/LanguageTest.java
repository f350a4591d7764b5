import java.io.IOException;
import java.lang.reflect.Member;
import java.lang.reflect.Method;
import java.lang.reflect.Modifier;
import java.nio.file.Files;
import java.nio.file.Path;
import java.util.ArrayList;
import java.util.Arrays;
import java.util.List;
import java.util.Set;
import java.util.TreeSet;

/** The public face of the document, and the rules of LANGUAGE.md as far as Rules sees them. */
public final class LanguageTest {
    private static final String SOURCE = "src/main/java/WalkerPlan.java";
    private static final Set<String> FACE = Set.of(
        "public static final int NONE",
        "public static final int FULL",
        "public WalkerPlan()",
        "public boolean mark(int,int)",
        "public boolean join(int,int,int)",
        "public boolean cut(int,int,int)",
        "public int add(int,int)",
        "public int drop()",
        "public boolean from(int)",
        "public int at(int)",
        "public int walkers()",
        "public int after(int)",
        "public int between(int,int)",
        "public int reached()",
        "public int startsAt(int)",
        "public int diesAfter()",
        "public int edges()");
    private static final Checks c = new Checks();

    public static void main(String[] args) throws Exception {
        face();
        source(Files.readString(Path.of(SOURCE)));
        c.end();
    }

    private static void face() {
        c.part("rule 1");
        Class<?> x = WalkerPlan.class;
        c.due("the class is public and final", x.getModifiers(), Modifier.PUBLIC | Modifier.FINAL);
        c.due("nested classes", x.getDeclaredClasses().length, 0);
        c.due("it extends Object alone", x.getSuperclass() == Object.class && x.getInterfaces().length == 0, true);
        List<Member> members = new ArrayList<>();
        members.addAll(Arrays.asList(x.getDeclaredFields()));
        members.addAll(Arrays.asList(x.getDeclaredMethods()));
        members.addAll(Arrays.asList(x.getDeclaredConstructors()));
        Set<String> seen = new TreeSet<>();
        Set<String> publicMethods = new TreeSet<>();
        for (Member m : members) {
            if (!Modifier.isPrivate(m.getModifiers())) {
                seen.add(m.toString().replace("WalkerPlan.", ""));
                if (m instanceof Method) publicMethods.add(m.getName());
            }
        }
        c.due("the face is the document's, not " + seen, seen.equals(FACE), true);
        for (Method m : x.getDeclaredMethods()) {
            boolean hides = Modifier.isPrivate(m.getModifiers()) && publicMethods.contains(m.getName());
            c.due("private " + m.getName() + " bears a public name", hides, false);
        }
    }

    private static void source(String text) throws IOException {
        c.part("the source");
        for (String row : Rules.broken(text)) {
            c.due(row, true, false);
        }
    }
}
