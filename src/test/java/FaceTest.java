import java.io.IOException;
import java.lang.reflect.Constructor;
import java.lang.reflect.Field;
import java.lang.reflect.Method;
import java.lang.reflect.Modifier;
import java.nio.file.Files;
import java.nio.file.Path;
import java.util.Arrays;
import java.util.HashSet;
import java.util.Map;
import java.util.Set;
import java.util.TreeMap;
import java.util.regex.Pattern;

/** The public face is the document's and no more, and the source keeps to the rules of the language. */
public final class FaceTest {
    private static final Path SOURCE = Path.of("src/main/java/WingDesk.java");
    private static final Path DOCUMENT = Path.of("../shared/DOC.md");
    private static final int MOST_LINES = 60;
    private static final int MOST_CLASSES = 12;
    private static final int MOST_FIELDS = 20;
    private static final int MOST_PARAMETERS = 7;

    private static final Due DUE = new Due();

    public static void main(String[] args) throws IOException {
        face();
        members(WingDesk.class);
        int classes = 1;
        for (Class<?> inner : WingDesk.class.getDeclaredClasses()) {
            classes++;
            members(inner);
            DUE.is(inner.getName() + " is static", 1, bit(Modifier.isStatic(inner.getModifiers())));
            DUE.is(inner.getName() + " is public", 0, bit(Modifier.isPublic(inner.getModifiers())));
        }
        DUE.is("at most " + MOST_CLASSES + " classes", 1, bit(classes <= MOST_CLASSES));
        signatures(Files.readString(DOCUMENT), Files.readString(SOURCE));
        words(Files.readString(SOURCE));
        headings(Files.readString(SOURCE));
        lengths(Files.readString(SOURCE));
        DUE.end("FaceTest");
    }

    private static int bit(boolean is) {
        return is ? 1 : 0;
    }

    private static Map<String, Integer> parametersDue() {
        Map<String, Integer> due = new TreeMap<>();
        String[] face = {"piece 3", "as 2", "about 2", "wear 2", "bare 1", "look 2", "limit 1", "allowed 3",
            "told 4", "seconds 4", "best 4", "shift 4", "less 0", "way 3", "fits 1", "dressers 0", "worn 1",
            "wash 1", "hours 1", "tonight 2", "tell 1", "check 3", "count 1", "found 1"};
        for (String method : face) {
            due.put(method.split(" ")[0], Integer.valueOf(method.split(" ")[1]));
        }
        return due;
    }

    private static void face() {
        Map<String, Integer> due = parametersDue();
        Set<String> seen = new HashSet<>();
        for (Method method : WingDesk.class.getDeclaredMethods()) {
            String name = method.getName();
            if (Modifier.isPrivate(method.getModifiers())) {
                DUE.is("a private method is named " + name, 0, bit(due.containsKey(name)));
                continue;
            }
            DUE.is(name + " is public", 1, bit(Modifier.isPublic(method.getModifiers())));
            DUE.is(name + " is the document's", 1, bit(due.containsKey(name) && seen.add(name)));
            DUE.is(name + " takes", due.getOrDefault(name, -1), method.getParameterCount());
            DUE.is(name + " takes ints", 1,
                bit(Arrays.stream(method.getParameterTypes()).allMatch(t -> t == int.class)));
            DUE.is(name + " answers an int", 1, bit(method.getReturnType() == int.class));
            DUE.is(name + " is static", 0, bit(Modifier.isStatic(method.getModifiers())));
        }
        DUE.is("methods", due.size(), seen.size());
        Constructor<?>[] made = WingDesk.class.getDeclaredConstructors();
        DUE.is("constructors", 1, made.length);
        DUE.is("public constructors without parameters", 1,
            Arrays.stream(made).filter(c -> Modifier.isPublic(c.getModifiers()) && c.getParameterCount() == 0).count());
        DUE.is("the class is final and public", 1, bit(Modifier.isFinal(WingDesk.class.getModifiers())
            && Modifier.isPublic(WingDesk.class.getModifiers())));
        for (Field field : WingDesk.class.getDeclaredFields()) {
            DUE.is(field.getName() + " is private", 1, bit(Modifier.isPrivate(field.getModifiers())));
        }
    }

    /** Each line of the document's face stands in the source, with its parameters' names. */
    private static void signatures(String document, String source) {
        int from = document.indexOf("```java\n");
        int to = document.indexOf("```\n", from + 1);
        DUE.is("the document has a face", 1, bit(from >= 0 && to > from));
        String[] lines = document.substring(Math.max(0, from), Math.max(0, to)).split("\n");
        int found = 0;
        for (String line : lines) {
            if (line.startsWith("    public ")) {
                found++;
                DUE.is(line.strip() + " stands", 1, bit(source.contains(line.replace(";", " {\n"))));
            }
        }
        DUE.is("lines of the face", 1 + parametersDue().size(), found);
    }

    private static void members(Class<?> one) {
        int fields = 0;
        for (Field field : one.getDeclaredFields()) {
            if (Modifier.isStatic(field.getModifiers())) {
                DUE.is(field.getName() + " is final", 1, bit(Modifier.isFinal(field.getModifiers())));
            } else {
                fields++;
            }
        }
        DUE.is(one.getName() + " has at most " + MOST_FIELDS + " fields", 1, bit(fields <= MOST_FIELDS));
        Set<String> face = parametersDue().keySet();
        for (Method method : one.getDeclaredMethods()) {
            String name = one.getName() + "." + method.getName();
            DUE.is(name + " has few parameters", 1, bit(method.getParameterCount() <= MOST_PARAMETERS));
            if (one != WingDesk.class) {
                DUE.is(name + " bears a public name", 0, bit(face.contains(method.getName())));
            }
        }
    }

    private static String withoutComments(String source) {
        return Pattern.compile("/\\*.*?\\*/|//[^\n]*", Pattern.DOTALL).matcher(source).replaceAll("");
    }

    private static void words(String source) {
        String code = withoutComments(source);
        String[] ruledOut = {"\\bthrow\\b", "\\bthrows\\b", "\\btry\\b", "\\bcatch\\b", "\\bsynchronized\\b",
            "\\bassert\\b", "->", "::", "\\bpackage\\b", "\\bprotected\\b", "\\bstatic\\s*\\{", "Exact\\b",
            "\\bnull\\b", "\\bRandom\\b", "\\bSystem\\.(?!arraycopy)", "\\bThread\\b", "@"};
        for (String word : ruledOut) {
            DUE.is("the code has " + word, 0, Pattern.compile(word).matcher(code).results().count());
        }
        DUE.is("imports but Arrays", 0,
            Pattern.compile("\\bimport\\s+(?!java\\.util\\.Arrays;)").matcher(code).results().count());
        DUE.is("signs above 126", 0, source.chars().filter(c -> c > 126).count());
    }

    /** What the interface says ahead of its calls, and the calls in the document's order. */
    private static void headings(String source) {
        String[] due = {"// ---- pieces and looks\n", " piece(", " as(", " about(", " wear(", " bare(", " look(", " limit(",
            "// ---- changes\n", " allowed(", " told(", " seconds(", " best(",
            "// ---- the show\n", " shift(", " less(", " way(", " fits(", " dressers(",
            "// ---- the wash\n", " worn(", " wash(", " hours(", "// ---- tonight\n", " tonight(",
            "// ---- what is told\n", " tell(", " check(", " count(", " found("};
        int at = 0;
        for (String words : due) {
            int next = source.indexOf(words.startsWith(" ") ? "    public int" + words : words, at);
            DUE.is(words.strip() + " stands in its order", 1, bit(next >= 0));
            at = Math.max(at, next);
        }
    }

    /** A method goes from its line with a brace, eight or four blanks in, up to the brace below it. */
    private static void lengths(String source) {
        String[] lines = source.split("\n", -1);
        for (int i = 0; i < lines.length; i++) {
            if (!lines[i].matches(" {4}( {4})?[a-z].*\\(.*\\) \\{") || lines[i].matches(" *(if|for|while|switch) .*")) {
                continue;
            }
            String end = lines[i].replaceAll("\\S.*", "") + "}";
            int last = i;
            while (last < lines.length && !lines[last].equals(end)) {
                last++;
            }
            DUE.is("line " + (i + 1) + " begins a short method", 1, bit(last - i < MOST_LINES));
        }
    }
}
