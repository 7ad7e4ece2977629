import java.io.IOException;
import java.lang.reflect.InvocationTargetException;
import java.lang.reflect.Method;
import java.lang.reflect.Modifier;
import java.nio.file.Files;
import java.nio.file.Path;
import java.util.HashMap;
import java.util.HashSet;
import java.util.Map;
import java.util.NoSuchElementException;
import java.util.Set;
import java.util.regex.Matcher;
import java.util.regex.Pattern;

/** The examples of README.md, read from it and called one by one: each must answer what stands behind it. */
public final class ReadmeTest {
    private static final String MADE = "ClogHouse house = new ClogHouse();";
    private static final Pattern CALL = Pattern.compile("(?:int (\\w+) = )?house\\.(\\w+)\\((.*?)\\);\\s+// ([-\\w]+): \\S.*");

    private static final Map<String, Integer> NAMES = new HashMap<>(Map.of("ClogHouse.NONE", ClogHouse.NONE));
    private static final Map<String, Method> FACE = new HashMap<>();
    private static final Set<String> CALLED = new HashSet<>();

    public static void main(String[] args) throws IOException, IllegalAccessException {
        for (Method m : ClogHouse.class.getDeclaredMethods()) {
            if (Modifier.isPublic(m.getModifiers())) {
                FACE.put(m.getName(), m);
            }
        }
        String page = Files.readString(Path.of("README.md"));
        ClogHouse house = null;
        boolean example = false;
        for (String line : page.split("\n")) {
            if (line.startsWith("```")) {
                example = line.equals("```java");
            } else if (example && line.equals(MADE)) {
                house = new ClogHouse();
            } else if (example) {
                call(house, line);
            }
        }
        for (String name : FACE.keySet()) {
            Check.due("an example calls " + name, true, CALLED.contains(name));
            Check.due("the table has " + name, true, Pattern.compile("\\|.*`" + name + "\\(.*\\|").matcher(page).find());
        }
        Check.finish();
    }

    private static void call(ClogHouse house, String line) throws IllegalAccessException {
        Matcher parts = CALL.matcher(line);
        boolean read = parts.matches() && FACE.containsKey(parts.group(2)) && house != null;
        Check.due("a call with its answer: <" + line + ">", true, read);
        if (!read) {
            return;
        }
        String answer = answer(house, FACE.get(parts.group(2)), parts.group(3));
        Check.due(line + " (it answers " + answer + ")", true, answer.equals(parts.group(4).replace("NONE", "-1")));
        CALLED.add(parts.group(2));
        if (parts.group(1) != null) {
            NAMES.put(parts.group(1), Integer.valueOf(answer));
        }
    }

    private static String answer(ClogHouse house, Method m, String told) throws IllegalAccessException {
        String[] parts = told.isEmpty() ? new String[0] : told.split(", ");
        Object[] arguments = new Object[parts.length];
        for (int i = 0; i < parts.length; i++) {
            String p = parts[i];
            arguments[i] = NAMES.containsKey(p) ? NAMES.get(p) : p.startsWith("'") ? (int) p.charAt(1) : Integer.decode(p);
        }
        try {
            return m.invoke(house, arguments).toString();
        } catch (InvocationTargetException e) {
            return e.getCause() instanceof NoSuchElementException ? "NoSuchElementException" : "another exception";
        }
    }
}
