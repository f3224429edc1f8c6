import java.io.IOException;
import java.lang.reflect.Constructor;
import java.lang.reflect.Field;
import java.lang.reflect.Method;
import java.lang.reflect.Modifier;
import java.nio.file.Files;
import java.nio.file.Path;
import java.util.HashSet;
import java.util.List;
import java.util.Set;
import java.util.TreeSet;

/** The rules of LANGUAGE.md that can be looked at from outside; it is run in the project's root. */
public final class RulesTest {
    private static final Set<String> FACE = Set.of("machine", "latency", "node", "statement",
            "take", "times", "out", "meant", "chosen", "ofValue", "mapAt", "cost", "code", "begins",
            "answer", "many", "meanStall", "with", "cyclesWith", "enough", "unordered", "digest");

    public static void main(String[] args) throws IOException {
        face();
        inside();
        words();
        Due.end();
    }

    private static void face() {
        Class<?> main = SpillslotWorks.class;
        Due.isTrue("the class is public and final",
                Modifier.isPublic(main.getModifiers()) && Modifier.isFinal(main.getModifiers()));
        Set<String> found = new TreeSet<>();
        for (Method m : main.getDeclaredMethods()) {
            if (Modifier.isPrivate(m.getModifiers())) {
                Due.isTrue(m.getName() + " is no name of the face", !FACE.contains(m.getName()));
            } else {
                Due.isTrue(m.getName() + " is public", Modifier.isPublic(m.getModifiers()));
                found.add(m.getName());
            }
        }
        Due.isTrue("the face is that of the document", found.equals(new TreeSet<>(FACE)));
        Constructor<?>[] constructors = main.getDeclaredConstructors();
        Due.is("constructors", constructors.length, 1);
        Due.is("parameters of the constructor", constructors[0].getParameterCount(), 0);
        for (Field f : main.getDeclaredFields()) {
            Due.isTrue(f.getName() + " is private", Modifier.isPrivate(f.getModifiers()));
        }
    }

    private static void inside() {
        Class<?>[] classes = SpillslotWorks.class.getDeclaredClasses();
        Due.isTrue("some twelve classes", classes.length <= 12);
        Set<Class<?>> all = new HashSet<>(List.of(classes));
        all.add(SpillslotWorks.class);
        for (Class<?> c : all) {
            int fields = 0;
            for (Field f : c.getDeclaredFields()) {
                boolean isStatic = Modifier.isStatic(f.getModifiers());
                fields += isStatic ? 0 : 1;
                Due.isTrue(f.getName() + " is final, if static",
                        !isStatic || Modifier.isFinal(f.getModifiers()));
            }
            Due.isTrue(c.getName() + " has some twenty fields", fields <= 20);
            for (Method m : c.getDeclaredMethods()) {
                Due.isTrue(m.getName() + " takes seven at most", m.getParameterCount() <= 7);
                Due.isTrue(c.getName() + "." + m.getName() + " is no name of the face",
                        c == SpillslotWorks.class || !FACE.contains(m.getName()));
            }
        }
    }

    private static void words() throws IOException {
        List<String> lines = Files.readAllLines(Path.of("src/main/java/SpillslotWorks.java"));
        String[] words = {"import ", "package ", "->", "::", "catch", "finally", "synchronized",
            "assert ", "instanceof", "static {", "Exact(", "System.", "Object", ".equals(",
            "\" +", "+ \"", "long[]", "transient", "native "};
        int start = 0;
        for (int k = 0; k < lines.size(); k++) {
            String line = lines.get(k);
            for (String word : words) {
                Due.isTrue("line " + (k + 1) + " is free of " + word, !line.contains(word));
            }
            Due.isTrue("line " + (k + 1) + " is of signs 1 to 126",
                    line.chars().allMatch(c -> c > 0 && c < 127));
            if (line.endsWith("{") && line.matches(" {4,8}[a-zA-Z].*")) {
                start = k;
            } else if (line.matches(" {4,8}\\}")) {
                Due.isTrue("the method that ends in line " + (k + 1) + " is short",
                        k - start <= 60);
            }
        }
    }
}
