import java.io.IOException;
import java.lang.reflect.InvocationTargetException;
import java.lang.reflect.Method;
import java.lang.reflect.Modifier;
import java.nio.file.Files;
import java.nio.file.Path;
import java.util.ArrayList;
import java.util.Arrays;
import java.util.HashMap;
import java.util.HashSet;
import java.util.List;
import java.util.Map;
import java.util.Set;
import java.util.regex.Matcher;
import java.util.regex.Pattern;

/** README.md shows every call, and each answer that it tells is the one that the program gives. */
public final class ReadmeTest {
    private static final Pattern CALL = Pattern.compile("desk\\.(\\w+)\\(([-0-9, ]*)\\); *// (-?\\d+)(:.*)?");

    private static final Due DUE = new Due();
    private static final Map<String, Method> FACE = new HashMap<>();

    public static void main(String[] args) throws IOException, ReflectiveOperationException {
        for (Method method : WingDesk.class.getDeclaredMethods()) {
            if (Modifier.isPublic(method.getModifiers())) {
                FACE.put(method.getName(), method);
            }
        }
        Set<String> shown = new HashSet<>();
        WingDesk desk = new WingDesk();
        for (String line : examples(Files.readAllLines(Path.of("README.md")))) {
            Matcher call = CALL.matcher(line);
            boolean isCall = call.matches() && FACE.containsKey(call.group(1));
            DUE.is("README: [" + line + "] is a call with its answer", 1, isCall ? 1 : 0);
            if (isCall) {
                shown.add(call.group(1));
                DUE.is("README: [" + line + "]", Integer.parseInt(call.group(3)), answer(desk, call));
            }
        }
        DUE.is("README shows all calls", FACE.size(), shown.size());
        DUE.end("ReadmeTest");
    }

    /** The lines of Java, but for the one that makes the desk. */
    private static List<String> examples(List<String> lines) {
        List<String> found = new ArrayList<>();
        boolean isJava = false;
        for (String line : lines) {
            if (line.startsWith("```")) {
                isJava = line.equals("```java");
            } else if (isJava && !line.equals("WingDesk desk = new WingDesk();")) {
                found.add(line);
            }
        }
        return found;
    }

    private static int answer(WingDesk desk, Matcher call) throws IllegalAccessException, InvocationTargetException {
        Object[] arguments = Arrays.stream(call.group(2).split(", *"))
            .filter(number -> !number.isEmpty())
            .map(Integer::valueOf)
            .toArray();
        return (Integer) FACE.get(call.group(1)).invoke(desk, arguments);
    }
}
