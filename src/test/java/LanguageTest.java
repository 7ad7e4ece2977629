import java.io.IOException;
import java.lang.reflect.Constructor;
import java.lang.reflect.Executable;
import java.lang.reflect.Field;
import java.lang.reflect.Method;
import java.lang.reflect.Modifier;
import java.nio.file.Files;
import java.nio.file.Path;
import java.util.ArrayList;
import java.util.HashSet;
import java.util.List;
import java.util.Set;
import java.util.regex.Pattern;

/** The face as the document has it, and those rules of LANGUAGE.md that can be seen from outside. */
public final class LanguageTest {
    private static final String[] FACE = {
        "boolean grain 3", "int filter 0", "int cell 3", "boolean set 3", "int celled 3", "int held 4", "int told 2",
        "int push 2", "int feed 5", "boolean end 1", "int fault 0", "int rules 0", "boolean rule 2", "int worth 8",
        "boolean stream 1", "boolean come 2", "int hours 1", "boolean hand 2", "int history 3", "int breaks 2",
        "int ripe 1", "long share 4", "int drops 3", "int layer 2", "int order 2", "boolean cost 2", "int cheapest 3",
        "int gauge 4", "int back 4", "int barred 3", "int led 2", "int digest 0", "int count 1"};
    private static final String[] FORBIDDEN = {
        "->", "::", "\\bsynchronized\\b", "\\bassert\\b", "\\bfinally\\b", "\\btry\\b", "\\bcatch\\b", "Exact\\(",
        "\\bstatic \\{", "\\bSystem\\.(?!arraycopy)", "\\bMath\\.(?!max|min|abs)", "\\bthread\\b", "\\bRandom\\b",
        "\\bprotected\\b", "\\bpackage\\b", "\\bdouble\\b", "\\bfloat\\b", "[^\\x00-\\x7f]",
        "copyOf", "\\bclone\\b", "toCharArray", "substring", "StringBuilder", "ArrayList"};
    /** The methods, beside constructors, that may make objects: what they make is kept, and the document bounds it. */
    private static final String MAKERS = ".* (filter|addCell|rules|worth)\\(.*";
    private static final String CONSTRUCTOR = " *(public|private) [A-Z][A-Za-z]*\\(.*";

    public static void main(String[] args) throws IOException {
        face();
        List<Class<?>> classes = new ArrayList<>();
        classes.add(ClogHouse.class);
        classes.addAll(List.of(ClogHouse.class.getDeclaredClasses()));
        Check.due("at most some twelve classes", true, classes.size() <= 12);
        for (Class<?> c : classes) {
            members(c);
        }
        source();
        Check.finish();
    }

    private static void face() {
        Set<String> want = new HashSet<>(List.of(FACE));
        Set<String> got = new HashSet<>();
        for (Method m : ClogHouse.class.getDeclaredMethods()) {
            if (!Modifier.isPrivate(m.getModifiers())) {
                got.add(m.getReturnType() + " " + m.getName() + " " + m.getParameterCount());
                Check.due(m + " is public and not static", true,
                    Modifier.isPublic(m.getModifiers()) && !Modifier.isStatic(m.getModifiers()));
                for (Class<?> type : m.getParameterTypes()) {
                    Check.due(m + " takes int", true, type == int.class);
                }
            }
        }
        Check.due("the face is the document's " + got, true, want.equals(got));
        Check.due("the class is public and final", true,
            Modifier.isPublic(ClogHouse.class.getModifiers()) && Modifier.isFinal(ClogHouse.class.getModifiers()));
        Constructor<?>[] made = ClogHouse.class.getDeclaredConstructors();
        Check.due("one constructor", true,
            made.length == 1 && Modifier.isPublic(made[0].getModifiers()) && made[0].getParameterCount() == 0);
    }

    private static void members(Class<?> c) {
        boolean outer = c == ClogHouse.class;
        if (!outer) {
            int flags = c.getModifiers();
            Check.due(c + " is static, and not public", true, Modifier.isStatic(flags) && !Modifier.isPublic(flags));
        }
        int own = 0;
        for (Field f : c.getDeclaredFields()) {
            boolean constant = Modifier.isStatic(f.getModifiers());
            own += constant ? 0 : 1;
            Check.due(f + " is no changing static", true, !constant || Modifier.isFinal(f.getModifiers()));
            Check.due(f + " is private, or NONE", true,
                Modifier.isPrivate(f.getModifiers()) || outer && f.getName().equals("NONE"));
        }
        Check.due(c + " has some twenty fields at most", true, own <= 20);
        List<Executable> all = new ArrayList<>(List.of(c.getDeclaredMethods()));
        all.addAll(List.of(c.getDeclaredConstructors()));
        for (Executable e : all) {
            Check.due(e + " takes at most seven", true, e.getParameterCount() <= (e.getName().equals("worth") ? 8 : 7));
            boolean facial = outer && Modifier.isPublic(e.getModifiers());
            for (String line : FACE) {
                Check.due(e + " bears no name of the face", true, facial || !e.getName().equals(line.split(" ")[1]));
            }
        }
    }

    private static void source() throws IOException {
        List<String> lines = Files.readAllLines(Path.of("src/main/java/ClogHouse.java"));
        String begun = null;
        int length = 0;
        for (String line : lines) {
            for (String word : FORBIDDEN) {
                Check.due("no " + word + " in <" + line.strip() + ">", false, Pattern.compile(word).matcher(line).find());
            }
            if (line.matches("import .*")) {
                Check.due(line, true, line.matches("import java\\.util\\.(Arrays|NoSuchElementException);"));
            }
            if (line.matches("( {4}| {8})(public|private) [^=;]*\\(.*")) {
                begun = line;
                length = 0;
            }
            length++;
            if (begun != null && line.contains("new ")) {
                Check.due("made only where it is kept: " + line.strip(), true,
                    begun.matches(CONSTRUCTOR) || begun.matches(MAKERS));
            }
            if (begun != null && line.matches("( {4}| {8})\\}")) {
                Check.due("some sixty lines at most: " + begun.strip(), true, length <= 60);
                begun = null;
            }
        }
    }
}
