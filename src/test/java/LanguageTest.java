import java.io.IOException;
import java.lang.reflect.Constructor;
import java.lang.reflect.Field;
import java.lang.reflect.Method;
import java.lang.reflect.Modifier;
import java.nio.file.Files;
import java.nio.file.Path;
import java.util.HashSet;
import java.util.List;
import java.util.Set;
import java.util.regex.Matcher;
import java.util.regex.Pattern;

/** The rules of LANGUAGE.md that can be seen from outside or from the words of the source. */
public final class LanguageTest {
    private static final String FACE = "feed end text fault read write scan pin tell ask drop day crash played years undo "
            + "is where slot on holder free position heat of head move moveOf plan worth value needs threshold displaced "
            + "may next enough gained foretold copies would cheapest rank coldest warmth cools share mean book ledger "
            + "image back about";
    private static int wrong = 0;

    public static void main(String[] args) throws IOException {
        String source = Files.readString(Path.of("src/main/java/WarmExtents.java"));
        face();
        Class<?>[] inside = WarmExtents.class.getDeclaredClasses();
        for (Class<?> one : inside) {
            classInside(one);
        }
        due("twelve classes at most", inside.length + 1 <= 12);
        words(source.replaceAll("(?s)/\\*.*?\\*/", "").replaceAll("//[^\n]*", ""));
        methodLengths(source);
        System.out.println("LanguageTest: " + (wrong == 0 ? "all rules are kept" : wrong + " rules are broken"));
        if (wrong > 0) {
            System.exit(1);
        }
    }

    private static void due(String what, boolean holds) {
        if (!holds) {
            wrong++;
            System.out.println("broken: " + what);
        }
    }

    private static Set<String> faceNames() {
        return new HashSet<>(List.of(FACE.split(" ")));
    }

    private static void face() {
        due("the class is public and final",
                Modifier.isPublic(WarmExtents.class.getModifiers()) && Modifier.isFinal(WarmExtents.class.getModifiers()));
        Set<String> missing = faceNames();
        for (Method m : WarmExtents.class.getDeclaredMethods()) {
            if (Modifier.isPrivate(m.getModifiers())) {
                due(m.getName() + " bears no public name", !faceNames().contains(m.getName()));
            } else {
                due(m.getName() + " is of the face", Modifier.isPublic(m.getModifiers()) && missing.remove(m.getName()));
            }
            due(m.getName() + " has at most seven parameters", m.getParameterCount() <= 7);
        }
        due("nothing of the face is missing: " + missing, missing.isEmpty());
        for (Field f : WarmExtents.class.getDeclaredFields()) {
            due(f.getName() + " is private or NONE", Modifier.isPrivate(f.getModifiers()) || f.getName().equals("NONE"));
        }
        Constructor<?>[] made = WarmExtents.class.getDeclaredConstructors();
        due("one public constructor", made.length == 1 && Modifier.isPublic(made[0].getModifiers()));
        fields(WarmExtents.class);
    }

    private static void classInside(Class<?> one) {
        int how = one.getModifiers();
        due(one + " is static and hidden", Modifier.isStatic(how) && !Modifier.isPublic(how) && !Modifier.isProtected(how));
        for (Method m : one.getDeclaredMethods()) {
            due(one + ": " + m.getName() + " bears no public name", !faceNames().contains(m.getName()));
            due(m.getName() + " has at most seven parameters", m.getParameterCount() <= 7);
        }
        fields(one);
    }

    private static void fields(Class<?> one) {
        int own = 0;
        for (Field f : one.getDeclaredFields()) {
            int how = f.getModifiers();
            own += Modifier.isStatic(how) ? 0 : 1;
            due(one + ": " + f.getName() + " is final, as it is static", !Modifier.isStatic(how) || Modifier.isFinal(how));
        }
        due(one + " has at most twenty fields", own <= 20);
    }

    private static void words(String code) {
        String[] banned = {
            "import", "package", "try", "catch", "throw", "finally", "synchronized", "assert", "lambda", "->", "::",
            "static\\s*\\{", "System\\.(?!arraycopy)", "Float", "Double", "equals", "hashCode", "toString", "\\bvar\\b",
            "\\bFloat\\.", "Exact\\(", "native", "transient", "volatile", "Object", "\"\\s*\\+", "\\+\\s*\""
        };
        for (String word : banned) {
            Matcher m = Pattern.compile(word).matcher(code);
            due("no " + word + " in the class", !m.find());
        }
        for (int i = 0; i < code.length(); i++) {
            char sign = code.charAt(i);
            if (sign > 126 || sign < 32 && sign != '\n') {
                due("a plain sign at " + i, false);
            }
        }
    }

    private static void methodLengths(String source) {
        String[] lines = source.split("\n");
        int from = -1;
        String indent = "";
        for (int i = 0; i < lines.length; i++) {
            Matcher head = Pattern.compile("^( {4}| {8})(private|public)[^=;]*\\) \\{$").matcher(lines[i]);
            if (head.find()) {
                from = i;
                indent = head.group(1);
            } else if (from >= 0 && lines[i].equals(indent + "}")) {
                due("the method at line " + (from + 1) + " has at most sixty lines", i - from < 60);
                from = -1;
            }
        }
    }
}
