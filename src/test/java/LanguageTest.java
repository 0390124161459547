import java.io.IOException;
import java.lang.reflect.Constructor;
import java.lang.reflect.Field;
import java.lang.reflect.Method;
import java.lang.reflect.Modifier;
import java.nio.charset.StandardCharsets;
import java.nio.file.Files;
import java.nio.file.Path;
import java.util.Arrays;
import java.util.List;
import java.util.Set;
import java.util.TreeSet;
import java.util.regex.Matcher;
import java.util.regex.Pattern;
import java.util.stream.Collectors;

/** The face is the document's, and the source keeps those rules of LANGUAGE.md that its words show. */
public final class LanguageTest {
    private static final Path SOURCE = Path.of("src/main/java/ListenerIsTired.java");
    private static final Path DOCUMENT = Path.of("../shared/DOC.md");
    private static final List<String> FORBIDDEN = List.of("throw", "throws", "try", "catch", "finally", "synchronized",
        "assert", "goto", "native", "volatile", "transient", "protected", "package", "record", "var", "strictfp",
        "Object", "Thread", "Random", "Scanner", "Override", "equals", "hashCode", "toString");
    private static final List<String> LIBRARY = List.of("String", "StringBuilder", "ArrayList", "List", "Integer", "Long",
        "Math", "Iterator", "Iterable", "Comparable", "System", "Arrays");
    private static final int METHOD_MOST = 60;
    private static final int PARAMETERS_MOST = 7;
    private static final int FIELDS_MOST = 20;
    private static final int CLASSES_MOST = 12;
    private static int wrong = 0;

    public static void main(String[] args) throws IOException {
        face();
        classes();
        words(bare(Files.readString(SOURCE, StandardCharsets.ISO_8859_1)));
        System.out.println("LanguageTest: " + wrong + " wrong");
        if (wrong != 0) {
            System.exit(1);
        }
    }

    private static void expect(boolean is, String what) {
        if (!is) {
            wrong++;
            System.out.println(what);
        }
    }

    private static void face() throws IOException {
        Set<String> due = new TreeSet<>();
        Matcher m = Pattern.compile("public (int|long) (\\w+)\\((.*?)\\);").matcher(Files.readString(DOCUMENT));
        while (m.find()) {
            long many = Arrays.stream(m.group(3).split(",")).filter(s -> !s.isBlank()).count();
            due.add(m.group(1) + " " + m.group(2) + " " + many);
        }
        expect(due.size() == 29, "the document's methods are found: " + due.size());
        Set<String> there = new TreeSet<>();
        Set<String> hidden = new TreeSet<>();
        for (Method method : ListenerIsTired.class.getDeclaredMethods()) {
            boolean ints = Arrays.stream(method.getParameterTypes()).allMatch(t -> t == int.class);
            if (Modifier.isPublic(method.getModifiers())) {
                there.add(method.getReturnType() + " " + method.getName() + " " + (ints ? method.getParameterCount() : -1));
            } else {
                expect(Modifier.isPrivate(method.getModifiers()), method + " is neither public nor private");
                hidden.add(method.getName());
            }
        }
        expect(due.equals(there), "the face is " + there + ", due is " + due);
        Set<String> names = there.stream().map(s -> s.split(" ")[1]).collect(Collectors.toCollection(TreeSet::new));
        names.retainAll(hidden);
        expect(names.isEmpty(), "private methods with names of public ones: " + names);
        Constructor<?>[] constructors = ListenerIsTired.class.getDeclaredConstructors();
        expect(constructors.length == 1 && constructors[0].getParameterCount() == 0
                && Modifier.isPublic(constructors[0].getModifiers()), "one public constructor");
        Set<String> constants = Set.of("NONE", "BAD", "STATE", "FULL", "NO");
        for (Field field : ListenerIsTired.class.getDeclaredFields()) {
            boolean isConstant = constants.contains(field.getName());
            expect(isConstant ? Modifier.isPublic(field.getModifiers()) : Modifier.isPrivate(field.getModifiers()),
                    field + " is as open as it may be");
        }
        expect(ListenerIsTired.NONE == -1 && ListenerIsTired.BAD == -2 && ListenerIsTired.STATE == -3
                && ListenerIsTired.FULL == -4 && ListenerIsTired.NO == -4611686018427387904L, "the constants");
    }

    private static void classes() {
        Class<?>[] inside = ListenerIsTired.class.getDeclaredClasses();
        expect(inside.length + 1 <= CLASSES_MOST, "classes: " + (inside.length + 1));
        for (Class<?> c : inside) {
            expect(Modifier.isStatic(c.getModifiers()) && !Modifier.isPublic(c.getModifiers())
                    && !Modifier.isProtected(c.getModifiers()), c + " is static and not open");
            oneClass(c);
        }
        oneClass(ListenerIsTired.class);
    }

    private static void oneClass(Class<?> c) {
        int fields = 0;
        for (Field field : c.getDeclaredFields()) {
            if (Modifier.isStatic(field.getModifiers())) {
                expect(Modifier.isFinal(field.getModifiers()), field + " is static and not final");
            } else {
                fields++;
            }
        }
        expect(fields <= FIELDS_MOST, c + " has " + fields + " fields");
        for (Method method : c.getDeclaredMethods()) {
            expect(method.getParameterCount() <= PARAMETERS_MOST, method + " takes too much");
            expect(!method.isSynthetic(), method + " is synthetic");
        }
    }

    /** The source without its comments, its texts and letters, each line where it was. */
    private static String bare(String source) {
        String noComments = Pattern.compile("/\\*.*?\\*/", Pattern.DOTALL).matcher(source)
                .replaceAll(m -> m.group().replaceAll("[^\n]", ""));
        return noComments.replaceAll("//[^\n]*", "").replaceAll("\"(\\\\.|[^\"\\\\])*\"", "\"\"")
                .replaceAll("'(\\\\.|[^'\\\\])'", "0");
    }

    private static void words(String bare) {
        for (String word : FORBIDDEN) {
            expect(!Pattern.compile("\\b" + word + "\\b").matcher(bare).find(), "the word " + word);
        }
        expect(!bare.contains("->") && !bare.contains("::"), "a lambda or a reference to a method");
        expect(!bare.contains("@"), "an annotation");
        expect(!bare.contains("\"\" +") && !bare.contains("+ \"\""), "texts joined by +");
        expect(!Pattern.compile("while \\(true|for \\(;;").matcher(bare).find(), "a loop without an end in sight");
        Matcher imports = Pattern.compile("import ([\\w.]+);").matcher(bare);
        while (imports.find()) {
            expect(List.of("java.util.Arrays", "java.util.ArrayList", "java.util.List", "java.util.Iterator")
                    .contains(imports.group(1)), "import " + imports.group(1));
        }
        Set<String> own = new TreeSet<>(LIBRARY);
        Matcher declared = Pattern.compile("\\bclass (\\w+)").matcher(bare);
        while (declared.find()) {
            own.add(declared.group(1));
        }
        Matcher used = Pattern.compile("\\b([A-Z][a-z]\\w*)\\b").matcher(bare);
        while (used.find()) {
            expect(own.contains(used.group(1)), "the name " + used.group(1));
        }
        methodLengths(bare.split("\n", -1));
    }

    private static void methodLengths(String[] lines) {
        int begun = -1;
        String indent = "";
        for (int i = 0; i < lines.length; i++) {
            String line = lines[i];
            if (begun < 0 && line.matches(" +[\\w\\[\\]<> ]+\\(.*\\) \\{") && !line.trim().matches("(if|for|while|switch|else)\\b.*")) {
                begun = i;
                indent = line.substring(0, line.indexOf(line.trim()));
            } else if (begun >= 0 && line.equals(indent + "}")) {
                expect(i - begun + 1 <= METHOD_MOST, "line " + (begun + 1) + ": a method of " + (i - begun + 1) + " lines");
                begun = -1;
            }
        }
    }
}
