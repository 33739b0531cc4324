import com.sun.management.ThreadMXBean;
import java.io.IOException;
import java.lang.management.ManagementFactory;
import java.lang.reflect.Constructor;
import java.lang.reflect.Field;
import java.lang.reflect.Method;
import java.lang.reflect.Modifier;
import java.nio.file.Files;
import java.nio.file.Path;
import java.util.ArrayList;
import java.util.Arrays;
import java.util.Collections;
import java.util.List;
import java.util.TreeSet;
import java.util.regex.Matcher;
import java.util.regex.Pattern;

/** The face of the class, and the rules of LANGUAGE.md that can be seen in its source or while it runs. */
public final class RuleTest {
    private static final String FACE = "asksFor:2 as:2 ask:2 back:0 behind:2 bentBy:3 bestLine:2 bestLooks:3 check:1 claim:2 coins:1 copy:5 costs:2 count:1 "
        + "days:1 deal:1 fee:0 feed:3 fine:1 flat:1 item:2 keep:0 lay:3 mark:3 pour:1 reads:1 rest:2 rule:2 seed:1 set:3 sheet:3 standsOut:2 "
        + "tell:1 text:0 textTold:2 told:2 traveller:3 trim:1 turns:2 why:1 without:2";
    private static final String CONSTANTS = "BAD FULL INDEX KIND NO NONE NOTHING SIZE";
    private static final int WARM_UP = 3, CALLS = 512;
    /** All calls of one run have 7.3 million fields and elements: some 4 bytes each, with room to spare. */
    private static final long MOST_BYTES = 4_000_000;

    private static int wrong;

    private static void holds(String what, boolean is) {
        if (!is) {
            wrong++;
            System.out.println("RuleTest: " + what);
        }
    }

    public static void main(String[] args) throws IOException {
        face();
        String source = Files.readString(Path.of("src/main/java/RoundFigures.java"));
        asTheDocument(Files.readString(Path.of("../shared/DOC.md")), source);
        words(source);
        sizes(source);
        whatIsMade();
        System.out.println(wrong == 0 ? "RuleTest: all rules hold" : "RuleTest: " + wrong + " rules do not hold");
        if (wrong != 0) {
            System.exit(1);
        }
    }

    private static void face() {
        Class<?> c = RoundFigures.class;
        holds("the class is public and final", Modifier.isPublic(c.getModifiers()) && Modifier.isFinal(c.getModifiers()));
        TreeSet<String> methods = new TreeSet<>();
        TreeSet<String> names = new TreeSet<>();
        for (Method m : c.getDeclaredMethods()) {
            if (Modifier.isPublic(m.getModifiers())) {
                methods.add(m.getName() + ":" + m.getParameterCount());
                names.add(m.getName());
                holds(m + " answers an int, of ints", m.getReturnType() == int.class && Arrays.stream(m.getParameterTypes()).allMatch(t -> t == int.class));
                holds(m + " is no static", !Modifier.isStatic(m.getModifiers()));
            } else {
                holds(m + " is private", Modifier.isPrivate(m.getModifiers()));
            }
        }
        holds("the methods of the face: " + methods, methods.equals(new TreeSet<>(Arrays.asList(FACE.split(" ")))));
        TreeSet<String> constants = new TreeSet<>();
        for (Field f : c.getDeclaredFields()) {
            if (Modifier.isPublic(f.getModifiers())) {
                constants.add(f.getName());
            } else {
                holds(f + " is private", Modifier.isPrivate(f.getModifiers()));
            }
        }
        holds("the constants of the face: " + constants, constants.equals(new TreeSet<>(Arrays.asList(CONSTANTS.split(" ")))));
        Constructor<?>[] made = c.getDeclaredConstructors();
        holds("one public constructor", made.length == 1 && Modifier.isPublic(made[0].getModifiers()) && made[0].getParameterCount() == 0);
        inside(names);
    }

    /** Every line of the document's face stands in the source, in its order, under the heading that the document tells. */
    private static void asTheDocument(String document, String source) {
        Matcher face = Pattern.compile("(?s)```java\n(.*?)```").matcher(document);
        if (!face.find()) {
            holds("the document has a face", false);
            return;
        }
        int at = 0;
        for (String line : face.group(1).split("\n")) {
            String own = line.strip().replaceAll("\\);$", ") {");
            int found = source.indexOf(own, at);
            holds("the source says, in the document's order: " + own, found >= 0 || own.equals("}"));
            at = Math.max(at, found);
        }
        Matcher heading = Pattern.compile("Ahead of the calls `(\\w+)`.* the interface says: (---- .*)\\.").matcher(document);
        while (heading.find()) {
            int says = source.indexOf("// " + heading.group(2) + "\n");
            int next = source.indexOf("    public int ", says);
            holds(heading.group(2) + " stands right ahead of " + heading.group(1),
                says >= 0 && next >= 0 && source.startsWith("    public int " + heading.group(1) + "(", next));
        }
    }

    private static void inside(TreeSet<String> names) {
        Class<?>[] classes = RoundFigures.class.getDeclaredClasses();
        holds("at most twelve classes", classes.length + 1 <= 12);
        List<Class<?>> all = new ArrayList<>(Arrays.asList(classes));
        Collections.addAll(all, RoundFigures.class);
        for (Class<?> c : all) {
            long fields = 0;
            for (Field f : c.getDeclaredFields()) {
                boolean isStatic = Modifier.isStatic(f.getModifiers());
                fields += isStatic ? 0 : 1;
                holds(f + " is final", !isStatic || Modifier.isFinal(f.getModifiers()));
            }
            holds(c + " has at most twenty fields", fields <= 20);
            for (Method m : c.getDeclaredMethods()) {
                holds(m + " takes at most seven parameters", m.getParameterCount() <= 7);
                holds(m + " bears no name of a public one", c == RoundFigures.class && Modifier.isPublic(m.getModifiers()) || !names.contains(m.getName()));
            }
            holds(c + " is static", c == RoundFigures.class || Modifier.isStatic(c.getModifiers()));
        }
    }

    private static void words(String source) {
        String code = source.replaceAll("(?s)/\\*.*?\\*/", " ").replaceAll("//[^\n]*", " ").replaceAll("\"[^\"]*\"", "\"\"").replaceAll("'[^']*'", "''");
        String[] none = {"throw", "throws", "try", "catch", "synchronized", "assert", "import", "package", "Object", "protected", "volatile", "native",
            "equals", "hashCode", "toString", "Random", "System\\.(?!arraycopy)", "Thread", "->", "::", "\\w+Exact", "double", "float"};
        for (String word : none) {
            Matcher m = Pattern.compile(word.matches("\\w+") ? "\\b" + word + "\\b" : word).matcher(code);
            holds("the source has no " + word, !m.find());
        }
        for (char c : source.toCharArray()) {
            holds("the source is plain text", c == '\n' || c >= ' ' && c < 127);
        }
    }

    private static void sizes(String source) {
        int from = -1;
        String[] lines = source.split("\n");
        for (int i = 0; i < lines.length; i++) {
            if (lines[i].matches(" {4}( {4})?[^ /*].*\\) \\{")) {
                from = i;
            }
            if (from >= 0 && lines[i].matches(" {4}( {4})?\\}")) {
                holds("the method at line " + (from + 1) + " is short", i - from <= 60);
                from = -1;
            }
        }
    }

    /** The dearest calls must make next to nothing: what they think with is made in the constructor. */
    private static void whatIsMade() {
        ThreadMXBean threads = (ThreadMXBean) ManagementFactory.getThreadMXBean();
        long made = 0;
        for (int round = 0; round <= WARM_UP; round++) {
            long before = threads.getCurrentThreadAllocatedBytes();
            dearest();
            made = threads.getCurrentThreadAllocatedBytes() - before;
        }
        holds("512 of the dearest calls make " + made + " bytes", made <= MOST_BYTES);
    }

    private static void dearest() {
        RoundFigures x = new RoundFigures();
        x.deal(8);
        x.sheet(0, 0, 24);
        for (int i = 0; i < CALLS / 8; i++) {
            x.bestLine(30, 0);
            x.bestLooks(60, 1, 0);
            x.without(60, 0);
            x.bentBy(0, 0, 0);
            x.feed(0x66656520, 0x702b6c2b, 0x702b6c20);
            x.text();
            x.keep();
            x.back();
        }
    }
}
