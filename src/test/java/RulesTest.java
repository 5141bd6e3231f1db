import java.lang.management.ManagementFactory;
import java.lang.reflect.Constructor;
import java.lang.reflect.Field;
import java.lang.reflect.Method;
import java.lang.reflect.Modifier;
import java.nio.file.Files;
import java.nio.file.Path;
import java.util.List;
import java.util.Set;
import java.util.TreeSet;
import java.util.regex.Matcher;
import java.util.regex.Pattern;

/** The public face, what LANGUAGE.md says of the source as far as its text shows it, and the room that calls take. */
public final class RulesTest {
    private static final Set<String> FACE = Set.of(
        "word 4", "told 2", "as 2", "turns 2", "set 3", "traveller 0", "travels 2", "gives 2", "rule 2", "deal 1",
        "seed 1", "cross 2", "man 1", "forget 0", "days 1", "says 2", "cheapest 3", "shortest 2", "nearest 3",
        "treaty 1", "behind 3", "turnsBy 0", "quota 3", "bill 1", "fine 0", "feed 3", "trim 1", "text 0",
        "textTold 2", "why 1", "sheet 3", "mark 3", "pour 1", "reads 1", "copy 5", "lay 3", "ask 2", "item 2",
        "rest 2", "tell 1", "check 1", "keep 0", "back 0", "count 1");
    private static final List<String> FORBIDDEN = List.of(
        "\\bthrow\\b", "\\bthrows\\b", "\\btry\\b", "\\bcatch\\b", "\\bassert\\b", "\\bsynchronized\\b", "->", "::",
        "\\bimport\\b", "\\bpackage\\b", "Exact\\b", "\\bstatic\\s*\\{", "\\bhashCode\\b", "\\btoString\\b",
        "\\bvar\\b", "@", "\\[\\]\\[\\]\\[\\]", "\\bprotected\\b", "System\\.(?!arraycopy)", "\\bThread\\b");
    private static final int MOST_LINES = 60;
    private static final int MOST_PARAMETERS = 7;
    private static final int MOST_CLASSES = 12;
    private static final int MOST_FIELDS = 20;
    private static final long MOST_BYTES_OF_AN_OBJECT = 40000;
    private static final long MOST_BYTES_OF_A_RUN = 40000;

    public static void main(String[] args) throws Exception {
        face();
        classes();
        String source = Files.readString(Path.of(args.length > 0 ? args[0] : "src/main/java/WordLeash.java"));
        text(source);
        methodsAreShort(source);
        room();
        Due.end("RulesTest");
    }

    private static void face() {
        Set<String> names = new TreeSet<>();
        for (Method m : WordLeash.class.getDeclaredMethods()) {
            boolean open = !Modifier.isPrivate(m.getModifiers());
            boolean plain = Modifier.isPublic(m.getModifiers()) && !Modifier.isStatic(m.getModifiers())
                && m.getReturnType() == int.class;
            if (open) {
                Due.holds(m + " is public and answers an int", plain);
                names.add(m.getName() + " " + m.getParameterCount());
            }
        }
        Due.holds("the methods are those of the document: " + names, names.equals(FACE));
        Constructor<?>[] constructors = WordLeash.class.getDeclaredConstructors();
        Due.is("constructors", constructors.length, 1);
        Due.is("its parameters", constructors[0].getParameterCount(), 0);
        Due.holds("it is public", Modifier.isPublic(constructors[0].getModifiers()));
        int constants = 0;
        for (Field f : WordLeash.class.getDeclaredFields()) {
            boolean shut = Modifier.isPrivate(f.getModifiers());
            constants += shut ? 0 : 1;
            Due.holds(f + " is a constant or private", shut || Modifier.isPublic(f.getModifiers())
                && Modifier.isStatic(f.getModifiers()) && Modifier.isFinal(f.getModifiers()));
        }
        Due.is("constants", constants, 8);
        int modifiers = WordLeash.class.getModifiers();
        Due.holds("public and final", Modifier.isPublic(modifiers) && Modifier.isFinal(modifiers));
    }

    private static void classes() {
        Set<String> open = new TreeSet<>();
        FACE.forEach(f -> open.add(f.split(" ")[0]));
        Class<?>[] inside = WordLeash.class.getDeclaredClasses();
        Due.holds("so many classes", inside.length + 1 <= MOST_CLASSES);
        fields(WordLeash.class);
        for (Class<?> c : inside) {
            int modifiers = c.getModifiers();
            boolean shut = !Modifier.isPublic(modifiers) && !Modifier.isProtected(modifiers);
            Due.holds(c + " is static and not open", Modifier.isStatic(modifiers) && shut);
            fields(c);
            for (Method m : c.getDeclaredMethods()) {
                Due.holds(m + " bears no public name", !open.contains(m.getName()));
                Due.holds(m + " has few parameters", m.getParameterCount() <= MOST_PARAMETERS);
            }
        }
    }

    private static void fields(Class<?> c) {
        int fields = 0;
        for (Field f : c.getDeclaredFields()) {
            boolean still = Modifier.isStatic(f.getModifiers());
            fields += still ? 0 : 1;
            Due.holds(f + " is final, if static", !still || Modifier.isFinal(f.getModifiers()));
        }
        Due.holds(c + " has few fields", fields <= MOST_FIELDS);
    }

    private static void text(String source) {
        String code = source.replaceAll("(?s)/\\*.*?\\*/", "").replaceAll("//.*", "");
        for (String forbidden : FORBIDDEN) {
            Matcher matcher = Pattern.compile(forbidden).matcher(code);
            Due.holds("no " + forbidden, !matcher.find());
        }
        for (char c : source.toCharArray()) {
            if (c != '\n' && (c < 32 || c > 126)) {
                Due.holds("the source is plain", false);
            }
        }
    }

    private static void methodsAreShort(String source) {
        int methods = 0;
        String[] lines = source.split("\n");
        for (int i = 0; i < lines.length; i++) {
            if (lines[i].matches(" {4}( {4})?\\S.*\\) \\{")) {
                String close = " ".repeat(lines[i].length() - lines[i].stripLeading().length()) + "}";
                int end = i;
                while (!lines[end].equals(close)) {
                    end++;
                }
                Due.holds("the method at line " + (i + 1) + " is short", end - i < MOST_LINES);
                methods++;
            }
        }
        Due.holds("methods were found", methods > 80);
    }

    private static long allocated() {
        return ((com.sun.management.ThreadMXBean) ManagementFactory.getThreadMXBean()).getCurrentThreadAllocatedBytes();
    }

    /** The dearest calls, nearly 512 of them: none makes an object or an array. */
    private static void room() {
        long before = allocated();
        WordLeash x = new WordLeash();
        long made = allocated() - before;
        Due.holds("an object is small: " + made, made < MOST_BYTES_OF_AN_OBJECT);
        x.deal(10);
        for (int i = 0; i < 6; i++) {
            x.traveller();
        }
        Due.text(x, "duty ((((d*2+t)*3-q)&1)|!!d)*(d+1)");
        x.sheet(0, 1, 24);
        x.sheet(1, 1, 24);
        before = allocated();
        for (int i = 0; i < 30; i++) {
            x.quota(0, i % 10, 0);
            x.cheapest(i % 6, 255, i % 2);
            x.turnsBy();
            x.keep();
            x.days(60);
            x.back();
            x.check(30);
            x.behind(0, 60, 2);
            x.feed(0x64757479, 0x2028642a, 0x7429202b);
            x.feed(0x28212831, 0x292b3229, 0x2a332020);
            x.text();
            x.copy(0, 0, 1, 0, 24);
            x.lay(0, 2, 0);
            x.treaty(255);
            x.nearest(0, 255, 5);
            x.shortest(0, 255);
        }
        long run = allocated() - before;
        Due.holds("a run of calls makes next to nothing: " + run, run < MOST_BYTES_OF_A_RUN);
    }
}
