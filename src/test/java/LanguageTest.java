import java.lang.reflect.Field;
import java.lang.reflect.Member;
import java.lang.reflect.Method;
import java.lang.reflect.Modifier;
import java.nio.file.Files;
import java.nio.file.Path;
import java.util.ArrayList;
import java.util.Arrays;
import java.util.List;
import java.util.Set;
import java.util.TreeSet;
import java.util.regex.Matcher;
import java.util.regex.Pattern;

/** The public face of the document, and those rules of LANGUAGE.md that a short look can check. */
public final class LanguageTest {
    private static final String SOURCE = "src/main/java/WalkerPlan.java";
    private static final Set<String> FACE = Set.of(
        "public static final int NONE",
        "public static final int FULL",
        "public WalkerPlan()",
        "public boolean mark(int,int)",
        "public boolean join(int,int,int)",
        "public boolean cut(int,int,int)",
        "public int add(int,int)",
        "public int drop()",
        "public boolean from(int)",
        "public int at(int)",
        "public int walkers()",
        "public int after(int)",
        "public int between(int,int)",
        "public int reached()",
        "public int startsAt(int)",
        "public int diesAfter()",
        "public int edges()");
    private static final String BANNED =
        "\\b(package|import|float|double|String|Math|Integer|Long|System|Arrays|Object|null|throw|throws|try|catch"
        + "|synchronized|assert|instanceof|interface|enum|record|protected|var|this|super)\\b|->|::|\\[\\s*\\]\\s*\\[";
    private static final Checks c = new Checks();

    public static void main(String[] args) throws Exception {
        face();
        fields();
        source(Files.readString(Path.of(SOURCE)));
        c.end();
    }

    private static void face() {
        c.part("rule 1");
        Class<?> x = WalkerPlan.class;
        c.due("the class is public and final", x.getModifiers(), Modifier.PUBLIC | Modifier.FINAL);
        c.due("nested classes", x.getDeclaredClasses().length, 0);
        c.due("it extends Object alone", x.getSuperclass() == Object.class && x.getInterfaces().length == 0, true);
        List<Member> members = new ArrayList<>();
        members.addAll(Arrays.asList(x.getDeclaredFields()));
        members.addAll(Arrays.asList(x.getDeclaredMethods()));
        members.addAll(Arrays.asList(x.getDeclaredConstructors()));
        Set<String> seen = new TreeSet<>();
        Set<String> publicMethods = new TreeSet<>();
        for (Member m : members) {
            if (!Modifier.isPrivate(m.getModifiers())) {
                seen.add(m.toString().replace("WalkerPlan.", ""));
                if (m instanceof Method) publicMethods.add(m.getName());
            }
        }
        c.due("the face is the document's, not " + seen, seen.equals(FACE), true);
        for (Method m : x.getDeclaredMethods()) {
            boolean hides = Modifier.isPrivate(m.getModifiers()) && publicMethods.contains(m.getName());
            c.due("private " + m.getName() + " bears a public name", hides, false);
            c.due("rule 10: parameters of " + m.getName() + " are at most seven", m.getParameterCount() <= 7, true);
        }
    }

    private static void fields() {
        c.part("rules 2, 5 and 10");
        int beside = 0;
        for (Field f : WalkerPlan.class.getDeclaredFields()) {
            Class<?> type = f.getType();
            if (Modifier.isStatic(f.getModifiers())) {
                boolean constant = Modifier.isFinal(f.getModifiers()) && (type == int.class || type == long.class);
                c.due("static " + f.getName() + " is a constant", constant, true);
            } else {
                beside++;
                Class<?> item = type.isArray() ? type.getComponentType() : type;
                c.due("the type of " + f.getName() + " is allowed", item.isPrimitive(), true);
            }
        }
        c.due("the fields are at most forty", beside <= 40, true);
    }

    private static void source(String text) {
        c.part("the source");
        String code = text.replaceAll("(?s)/\\*.*?\\*/", "").replaceAll("//[^\n]*", "");
        Matcher banned = Pattern.compile(BANNED).matcher(code);
        while (banned.find()) {
            c.due("use of " + banned.group(), true, false);
        }
        Matcher made = Pattern.compile("[^\n]*\\bnew\\b[^\n]*").matcher(code);
        while (made.find()) {
            boolean field = made.group().matches("    private final int\\[\\] \\w+ = new int\\[[A-Z_]+\\];");
            c.due("rule 4: made in a field's initialiser:" + made.group(), field, true);
        }
    }
}
