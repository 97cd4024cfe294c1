import java.lang.reflect.Constructor;
import java.lang.reflect.Field;
import java.lang.reflect.Method;
import java.lang.reflect.Modifier;
import java.nio.file.Files;
import java.nio.file.Path;
import java.util.HashSet;
import java.util.Set;
import java.util.TreeSet;
import java.util.regex.Matcher;
import java.util.regex.Pattern;

/** The face of the class, and the rules of LANGUAGE.md that can be read from the class or its text. */
public final class FaceTest {
    private static final String[] FACE = {
        "int type(long,int)", "int clear()", "int hall()", "int sign(int)", "int door(int,int)", "long sees(int)",
        "int person(int,int)", "int carrier(int,int)", "int at(int,int)", "long could(int,int)",
        "long anybody(int,int)", "int let(int)", "int soonest(int,int,int)", "int act(int,int)",
        "int walk(int,int)", "int tick(int)", "int line(int,int)", "int age(int,int)", "int charge(int,int)",
        "int lost()", "int look(int,int)", "int step(int)", "long where()", "int tells(int)",
        "int order(int,int,int)", "int late()", "int served(int,int)", "int keep(int)", "int back(int)",
        "int count(int)", "long trace()"};
    private static final String[] NEVER = {
        "\\bthrow\\b", "\\bthrows\\b", "\\btry\\b", "\\bcatch\\b", "\\bsynchronized\\b", "\\bassert\\b", "->", "::",
        "\\bprotected\\b", "\\bpackage\\b", "Exact\\b", "\\bSystem\\.(?!arraycopy)", "\\bimport (?!java\\.util\\.Arrays;)",
        "\\bArrays\\.(?!fill\\b|copyOf\\b|copyOfRange\\b)", "\\bLong\\.(?!bitCount\\b)", "\\bMath\\.(?!max\\b|min\\b|abs\\b)"};

    private final Due due = new Due();

    public static void main(String[] args) throws Exception {
        FaceTest t = new FaceTest();
        t.methods();
        t.members();
        t.constants();
        t.text(Files.readString(Path.of(args[0])));
        t.due.end();
    }

    private static String signature(Method m) {
        StringBuilder s = new StringBuilder(m.getReturnType().getSimpleName()).append(' ').append(m.getName()).append('(');
        for (Class<?> p : m.getParameterTypes()) {
            s.append(s.charAt(s.length() - 1) == '(' ? "" : ",").append(p.getSimpleName());
        }
        return s.append(')').toString();
    }

    private void methods() {
        Set<String> want = new TreeSet<>(Set.of(FACE));
        Set<String> got = new TreeSet<>();
        Set<String> publicNames = new HashSet<>();
        for (Method m : HallCarrier.class.getDeclaredMethods()) {
            if (Modifier.isPublic(m.getModifiers())) {
                got.add(signature(m));
                publicNames.add(m.getName());
                due.holds(m.getName() + " is no static method", !Modifier.isStatic(m.getModifiers()));
            }
        }
        due.holds("public methods: " + got, got.equals(want));
        noSecondUse(HallCarrier.class, publicNames);
        for (Class<?> inside : HallCarrier.class.getDeclaredClasses()) {
            noSecondUse(inside, publicNames);
        }
    }

    private void noSecondUse(Class<?> of, Set<String> publicNames) {
        for (Method m : of.getDeclaredMethods()) {
            boolean face = of == HallCarrier.class && Modifier.isPublic(m.getModifiers());
            due.holds(of.getSimpleName() + "." + m.getName() + " bears no public name", face || !publicNames.contains(m.getName()));
            due.holds(m.getName() + " has seven parameters at most", m.getParameterCount() <= 7);
        }
    }

    private void members() {
        due.holds("public and final", Modifier.isPublic(HallCarrier.class.getModifiers()) && Modifier.isFinal(HallCarrier.class.getModifiers()));
        Constructor<?>[] made = HallCarrier.class.getDeclaredConstructors();
        due.holds("one constructor", made.length == 1 && Modifier.isPublic(made[0].getModifiers()) && made[0].getParameterCount() == 0);
        for (Method m : HallCarrier.class.getDeclaredMethods()) {
            due.holds(m.getName() + " is public or private", (m.getModifiers() & (Modifier.PUBLIC | Modifier.PRIVATE)) != 0);
        }
        int classes = 1;
        for (Class<?> inside : HallCarrier.class.getDeclaredClasses()) {
            classes++;
            due.holds(inside + " is static and private", (inside.getModifiers() & Modifier.STATIC) != 0 && (inside.getModifiers() & Modifier.PRIVATE) != 0);
            fields(inside);
        }
        fields(HallCarrier.class);
        due.holds("twelve classes at most", classes <= 12);
    }

    private void fields(Class<?> of) {
        int own = 0;
        for (Field f : of.getDeclaredFields()) {
            boolean constant = Modifier.isStatic(f.getModifiers());
            own += constant ? 0 : 1;
            due.holds(f + " is final if static", !constant || Modifier.isFinal(f.getModifiers()));
            boolean face = of == HallCarrier.class && Modifier.isPublic(f.getModifiers()) && constant;
            due.holds(f + " is private", face || Modifier.isPrivate(f.getModifiers()));
        }
        due.holds(of + " has twenty fields at most", own <= 20);
    }

    private void constants() throws Exception {
        Set<String> got = new TreeSet<>();
        for (Field f : HallCarrier.class.getDeclaredFields()) {
            if (Modifier.isPublic(f.getModifiers())) {
                got.add(f.getType() + " " + f.getName() + " " + f.getInt(null));
            }
        }
        due.holds("constants: " + got, got.equals(new TreeSet<>(Set.of("int BAD -1", "int STATE -2", "int FULL -3", "int NONE -9"))));
    }

    private void text(String source) {
        String code = source.replaceAll("(?s)/\\*.*?\\*/", "").replaceAll("//[^\n]*", "");
        for (String never : NEVER) {
            Matcher m = Pattern.compile(never).matcher(code);
            due.holds("not in the text: " + never, !m.find());
        }
        int made = 0;
        Matcher news = Pattern.compile("\\bnew\\b").matcher(code);
        while (news.find()) {
            int from = code.lastIndexOf('\n', news.start());
            String line = code.substring(from + 1, code.indexOf('\n', news.start()));
            due.holds("made with the object: " + line.trim(), line.contains("private final"));
            made++;
        }
        due.holds("rows are made", made > 0);
        for (char c : source.toCharArray()) {
            if (c > 126) {
                due.holds("plain signs alone", false);
            }
        }
        shortMethods(source);
    }

    private void shortMethods(String source) {
        String[] lines = source.split("\n");
        int begun = -1;
        for (int i = 0; i < lines.length; i++) {
            if (lines[i].matches("( {4}| {8})(public|private) .*\\) \\{")) {
                begun = i;
            } else if (begun >= 0 && lines[i].matches("( {4}| {8})\\}")) {
                due.holds(lines[begun].trim() + " is short", i - begun <= 60);
                begun = -1;
            }
        }
    }
}
