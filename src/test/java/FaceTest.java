import java.io.IOException;
import java.lang.reflect.Constructor;
import java.lang.reflect.Field;
import java.lang.reflect.Member;
import java.lang.reflect.Method;
import java.lang.reflect.Modifier;
import java.nio.file.Files;
import java.nio.file.Path;
import java.util.ArrayList;
import java.util.Arrays;
import java.util.List;
import java.util.Map;
import java.util.Set;
import java.util.TreeMap;
import java.util.TreeSet;
import java.util.regex.Matcher;
import java.util.regex.Pattern;

/** The public face, and those rules of LANGUAGE.md that can be seen from outside or in the words of the source. */
public final class FaceTest {
    private static final Check CHECK = new Check();
    private static final Path SOURCE = Path.of("src/main/java/HeadMarks.java");

    public static void main(String[] args) throws IOException {
        constants();
        methods();
        nothingElseIsSeen();
        nestedClasses();
        sizes();
        words(Files.readString(SOURCE));
        CHECK.end();
    }

    private static void constants() {
        CHECK.due("UNKNOWN", HeadMarks.UNKNOWN, -1);
        CHECK.due("OUTSIDE", HeadMarks.OUTSIDE, -2);
        CHECK.due("STATE", HeadMarks.STATE, -3);
        CHECK.due("FULL", HeadMarks.FULL, -4);
        CHECK.due("NONE", HeadMarks.NONE, -6);
        CHECK.due("FAULT", HeadMarks.FAULT, -7);
    }

    private static Map<String, Integer> face() {
        Map<String, Integer> parameters = new TreeMap<>();
        for (String name : new String[] {"wipe", "fault", "read"}) {
            parameters.put(name, 0);
        }
        for (String name : new String[] {"say", "changed", "worst", "fit", "image", "restore", "count"}) {
            parameters.put(name, 1);
        }
        for (String name : new String[] {"rule", "cut", "line", "page", "headed", "chapter"}) {
            parameters.put(name, 2);
        }
        parameters.put("mark", 3);
        return parameters;
    }

    private static void methods() {
        Map<String, Integer> seen = new TreeMap<>();
        for (Method m : HeadMarks.class.getDeclaredMethods()) {
            if (Modifier.isPublic(m.getModifiers())) {
                seen.put(m.getName(), m.getParameterCount());
                CHECK.holds(m + " answers an int", m.getReturnType() == int.class);
                CHECK.holds(m + " takes ints", Arrays.stream(m.getParameterTypes()).allMatch(t -> t == int.class));
                CHECK.holds(m + " is of an object", !Modifier.isStatic(m.getModifiers()));
            } else {
                CHECK.holds(m + " bears a name of its own", !face().containsKey(m.getName()));
            }
        }
        CHECK.holds("the methods are those of the document", seen.equals(face()));
        CHECK.holds("the class is public and final",
            (HeadMarks.class.getModifiers() & (Modifier.PUBLIC | Modifier.FINAL)) == (Modifier.PUBLIC | Modifier.FINAL));
    }

    private static void nothingElseIsSeen() {
        Set<String> constants = new TreeSet<>();
        for (Field f : HeadMarks.class.getDeclaredFields()) {
            seenOrPrivate(f);
            if (Modifier.isPublic(f.getModifiers())) {
                constants.add(f.getName());
            }
        }
        CHECK.holds("the constants are those of the document",
            constants.equals(Set.of("UNKNOWN", "OUTSIDE", "STATE", "FULL", "NONE", "FAULT")));
        for (Method m : HeadMarks.class.getDeclaredMethods()) {
            seenOrPrivate(m);
        }
        Constructor<?>[] made = HeadMarks.class.getDeclaredConstructors();
        CHECK.due("constructors", made.length, 1);
        CHECK.due("the constructor's parameters", made[0].getParameterCount(), 0);
        CHECK.holds("the constructor is public", Modifier.isPublic(made[0].getModifiers()));
    }

    private static void seenOrPrivate(Member m) {
        CHECK.holds(m + " is public or private",
            Modifier.isPublic(m.getModifiers()) || Modifier.isPrivate(m.getModifiers()));
    }

    private static void nestedClasses() {
        for (Class<?> c : HeadMarks.class.getDeclaredClasses()) {
            CHECK.holds(c + " is static", Modifier.isStatic(c.getModifiers()));
            CHECK.holds(c + " is not public", !Modifier.isPublic(c.getModifiers()));
            for (Method m : c.getDeclaredMethods()) {
                CHECK.holds(m + " bears a name of its own", !face().containsKey(m.getName()));
            }
        }
    }

    /** Rule 11 of LANGUAGE.md, and of rule 5 what is true of all classes of the file. */
    private static void sizes() {
        List<Class<?>> classes = new ArrayList<>(List.of(HeadMarks.class.getDeclaredClasses()));
        classes.add(HeadMarks.class);
        CHECK.holds("classes: " + classes.size(), classes.size() <= 12);
        for (Class<?> c : classes) {
            int fields = 0;
            for (Field f : c.getDeclaredFields()) {
                boolean ofAll = Modifier.isStatic(f.getModifiers());
                CHECK.holds(f + ": static ones are final", !ofAll || Modifier.isFinal(f.getModifiers()));
                fields += ofAll ? 0 : 1;
            }
            CHECK.holds(c + " has fields: " + fields, fields <= 20);
            for (Method m : c.getDeclaredMethods()) {
                CHECK.holds(m + " has parameters: " + m.getParameterCount(), m.getParameterCount() <= 7);
            }
        }
    }

    private static void words(String source) {
        String code = source.replaceAll("(?s)/\\*.*?\\*/", " ").replaceAll("//[^\n]*", " ");
        Matcher word = Pattern.compile("\\b(throw|throws|try|catch|synchronized|assert|import|package|protected|"
            + "new\\s+Object|[A-Za-z]+Exact|System\\.(?!arraycopy)\\w+|hashCode|toString|Random|Thread)\\b|->|::")
            .matcher(code);
        while (word.find()) {
            CHECK.holds("the source has no " + word.group(), false);
        }
        CHECK.holds("the source is plain ASCII", source.chars().allMatch(c -> c < 128));
    }
}
