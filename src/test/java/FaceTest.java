import java.io.IOException;
import java.lang.reflect.Constructor;
import java.lang.reflect.Field;
import java.lang.reflect.Method;
import java.lang.reflect.Modifier;
import java.nio.file.Files;
import java.nio.file.Path;
import java.util.Set;
import java.util.TreeSet;
import java.util.regex.Pattern;

/** The face of the class is the document's, and its source keeps to those rules of LANGUAGE.md that a look can tell. */
public final class FaceTest {
    private static final Checks C = new Checks();
    private static final String[] FACE = {
        "int type(int,int)", "int wipe(int)", "int undo(int)", "int fault(int)", "int floor(int,int)",
        "int basket(int,int)", "int set(int,int)", "int wind(int)", "int sunday(int)", "int back(int)", "int read(int)",
        "int at(int,int,int)", "int note(int,int)", "int comes(int)", "int bites(int,int)", "int famine()",
        "int first(int)", "int greedy()", "int send(int,int)", "int loaf(int,int)", "int feed(int,int)",
        "int still(int)", "int seen(int,int,int)", "int forget()", "int never()", "int was(int,int)", "int ask(int)",
        "long gust(int,int,int,int)", "int week(int,int,int)", "int sheet(int,int,int)", "int lose(int)",
        "int put(int,int,int,int)", "int get(int,int,int)", "int copy(int,int,int,int,int)", "int write(int,int)",
        "int count(int)", "long digest()"};
    private static final String[] FORBIDDEN = {
        "\\b(throw|throws|try|catch|finally|synchronized|assert|protected|volatile|transient|native)\\b", "->", "::",
        "static \\{", "\\bnew \\w+\\([^)]*\\) \\{", "^package ", "^import ", "\\b(Object|System\\.(?!arraycopy))\\b",
        "\\b(Random|Thread|File|Exception|Error|String|StringBuilder|Arrays|Map|Set)\\b", "[^\\x00-\\x7F]"};

    public static void main(String[] args) throws IOException {
        face();
        hiddenMembers();
        source();
        C.end();
    }

    private static void face() {
        Class<BreadString> c = BreadString.class;
        C.due("public and final", c.getModifiers(), Modifier.PUBLIC | Modifier.FINAL);
        Set<String> wanted = new TreeSet<>(Set.of(FACE));
        for (Method m : c.getDeclaredMethods()) {
            if (!Modifier.isPrivate(m.getModifiers())) {
                StringBuilder types = new StringBuilder();
                for (Class<?> type : m.getParameterTypes()) {
                    types.append(types.length() == 0 ? "" : ",").append(type.getName());
                }
                String line = m.getReturnType().getName() + " " + m.getName() + "(" + types + ")";
                C.due("in the document, public and of an object: " + line,
                    wanted.remove(line) && m.getModifiers() == Modifier.PUBLIC ? 1 : 0, 1);
            }
        }
        C.due("missing: " + wanted, wanted.size(), 0);
        Constructor<?>[] made = c.getDeclaredConstructors();
        C.due("constructors", made.length, 1);
        C.due("public constructor without parameters", made[0].getModifiers() == Modifier.PUBLIC
            && made[0].getParameterCount() == 0 ? 1 : 0, 1);
        C.due("NONE", BreadString.NONE, -1);
        C.due("BAD", BreadString.BAD, -2);
        C.due("NOT", BreadString.NOT, -3);
        C.due("FULL", BreadString.FULL, -4);
    }

    private static void hiddenMembers() {
        Set<String> constants = Set.of("NONE", "BAD", "NOT", "FULL");
        Set<String> names = new TreeSet<>();
        for (String line : FACE) {
            names.add(line.substring(line.indexOf(' ') + 1, line.indexOf('(')));
        }
        for (Field f : BreadString.class.getDeclaredFields()) {
            boolean shown = constants.contains(f.getName());
            C.due("field " + f.getName(), Modifier.isPrivate(f.getModifiers()) ? 0 : 1, shown ? 1 : 0);
            C.due("static is final: " + f.getName(),
                Modifier.isStatic(f.getModifiers()) && !Modifier.isFinal(f.getModifiers()) ? 1 : 0, 0);
        }
        for (Method m : BreadString.class.getDeclaredMethods()) {
            C.due("a private method bears no public name: " + m.getName(),
                Modifier.isPrivate(m.getModifiers()) && names.contains(m.getName()) ? 1 : 0, 0);
        }
        for (Class<?> inside : BreadString.class.getDeclaredClasses()) {
            int shown = inside.getModifiers() & (Modifier.STATIC | Modifier.PUBLIC | Modifier.PROTECTED);
            C.due("static and not public: " + inside.getName(), shown, Modifier.STATIC);
        }
        C.due("classes inside, twelve at most", BreadString.class.getDeclaredClasses().length <= 12 ? 1 : 0, 1);
    }

    private static void source() throws IOException {
        String source = Files.readString(Path.of("src/main/java/BreadString.java"));
        String code = source.replaceAll("(?s)/\\*.*?\\*/", "").replaceAll("//[^\n]*", "");
        for (String pattern : FORBIDDEN) {
            boolean there = Pattern.compile(pattern, Pattern.MULTILINE).matcher(code).find();
            C.due("in the source: " + pattern, there ? 1 : 0, 0);
        }
    }
}
