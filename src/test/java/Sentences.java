import java.io.IOException;
import java.lang.reflect.Method;
import java.lang.reflect.Modifier;
import java.nio.file.Files;
import java.nio.file.Path;
import java.util.ArrayList;
import java.util.Arrays;
import java.util.HashMap;
import java.util.List;
import java.util.Map;
import java.util.TreeMap;
import java.util.function.Supplier;
import java.util.regex.Matcher;
import java.util.regex.Pattern;

/** Tests that each name a sentence of the document by its words: these must stand there, and what is due be answered. */
abstract class Sentences {
    static final int TELLER = 0, WIFE = 1, DEAF = 2, AUNT = 3, DOG = 4, LIAR = 5;
    static final int MIN = Integer.MIN_VALUE, MAX = Integer.MAX_VALUE;
    static final int NONE = -1, BAD = -2, STATE = -3, FULL = -4, NO_VALUE = -1000;
    static final int NOTHING = -11, OUTSIDE = -12, UNLIKE = -13, BELOW = -14;
    static final long NO = -4611686018427387904L;
    static final int DAY = 0, NUMBER = 1, TIRED = 2, STORY = 3, EAR = 4, HEARD = 5, ASLEEP = 6, KIND = 7, DOES = 8, WEIGHS = 9;
    static final int BYTES = 0, SHORTS = 1, INTS = 2, MISSING = -1;
    static final String OTHER_PARTS = ";weighs 0;spares 0;";

    private static final Path DOCUMENT = Path.of("../shared/DOC.md");
    private static final Map<String, Method> FACE = face();
    static final Map<String, String> SECTIONS = sections();

    /** Section and words of each sentence that had its test, and of each whose test failed. */
    static final List<String[]> tested = new ArrayList<>();
    static final List<String> failed = new ArrayList<>();
    private static String section = "";
    private static String words = "";
    private static int right = 0;
    private static int wrong = 0;

    private static Map<String, Method> face() {
        Map<String, Method> face = new HashMap<>();
        for (Method m : ListenerIsTired.class.getDeclaredMethods()) {
            if (Modifier.isPublic(m.getModifiers())) {
                face.put(m.getName(), m);
            }
        }
        return face;
    }

    /** The document's sections, blanks and ends of lines as one blank; 'Terms' falls into its parts 1, 2 and 3. */
    private static Map<String, String> sections() {
        String document;
        try {
            document = Files.readString(DOCUMENT);
        } catch (IOException e) {
            throw new IllegalStateException(e);
        }
        Map<String, String> sections = new TreeMap<>();
        Matcher m = Pattern.compile("(?m)^(?:## (.*)|==== (\\d) )").matcher(document);
        String name = null;
        int from = 0;
        while (m.find()) {
            put(sections, name, document.substring(from, m.start()));
            name = m.group(1) == null ? "Terms " + m.group(2) : m.group(1).replaceFirst(":.*", "");
            from = m.end();
        }
        put(sections, name, document.substring(from));
        return sections;
    }

    private static void put(Map<String, String> sections, String name, String letters) {
        if (name != null) {
            sections.put(name, letters.replaceAll("\\s+", " ").trim());
        }
    }

    static void in(String itsSection) {
        section = itsSection;
    }

    static void sentence(String itsWords, Runnable test) {
        words = itsWords;
        int rightAhead = right;
        int wrongAhead = wrong;
        for (String[] other : tested) {
            expect("a sentence of its own", !other[0].equals(section) || !other[1].equals(words));
        }
        tested.add(new String[] {section, words});
        expect("these words stand in the document", SECTIONS.getOrDefault(section, "").contains(words));
        try {
            test.run();
        } catch (RuntimeException | StackOverflowError e) {
            expect("nothing is thrown, but " + e + " by " + e.getCause(), false);
        }
        expect("something is asked", right + wrong > rightAhead + wrongAhead);
        if (wrong != wrongAhead) {
            failed.add(section + ": " + words);
        }
    }

    static void sectionTested(String itsSection, String wordsLeft) {
        words = itsSection;
        expect("a test of \"" + wordsLeft + "\"", wordsLeft.isEmpty());
        if (!wordsLeft.isEmpty()) {
            failed.add(itsSection);
        }
    }

    static String ends() {
        return tested.size() + " sentences, " + failed.size() + " failed; " + right + " answers right, " + wrong + " wrong";
    }

    static void expect(String what, boolean holds) {
        if (holds) {
            right++;
            return;
        }
        wrong++;
        System.out.println(section + ", \"" + words + "\": it does not hold: " + what);
    }

    static void same(String what, long want, long got) {
        expect(what + " is " + got + ", due is " + want, want == got);
    }

    static long call(ListenerIsTired x, String name, int... values) {
        try {
            return ((Number) FACE.get(name).invoke(x, Arrays.stream(values).boxed().toArray())).longValue();
        } catch (ReflectiveOperationException e) {
            throw new IllegalStateException(named(name, values), e.getCause());
        }
    }

    private static String named(String name, int... values) {
        return name + Arrays.toString(values).replace('[', '(').replace(']', ')');
    }

    /** One call and the answer that is due. */
    static void due(ListenerIsTired x, long want, String name, int... values) {
        same(named(name, values), want, call(x, name, values));
    }

    /** A refused call: it answers so, and all stands as if it had not been made. */
    static void refused(Supplier<ListenerIsTired> valley, long want, String name, int... values) {
        ListenerIsTired x = valley.get();
        due(x, want, name, values);
        sameFace(named(name, values), x, valley.get());
    }

    /** A call that only thinks: all stands as if it had not been made. */
    static void changesNothing(Supplier<ListenerIsTired> valley, String name, int... values) {
        ListenerIsTired x = valley.get();
        long got = call(x, name, values);
        expect(named(name, values) + " is no refusal: " + got, got >= NONE);
        sameFace(named(name, values), x, valley.get());
    }

    private static void sameFace(String call, ListenerIsTired x, ListenerIsTired untouched) {
        List<String> got = Valleys.face(x);
        List<String> want = Valleys.face(untouched);
        for (int i = 0; i < Math.min(got.size(), want.size()); i++) {
            if (!got.get(i).equals(want.get(i))) {
                expect(call + " changes nothing: " + got.get(i) + ", else " + want.get(i), false);
                return;
            }
        }
        expect(call + " changes nothing", got.size() == want.size());
    }

    /** PEOPLE by pairs of KIND and NUMBER. */
    static ListenerIsTired with(int... pairs) {
        ListenerIsTired x = new ListenerIsTired();
        for (int i = 0; i < pairs.length; i += 2) {
            x.person(pairs[i], pairs[i + 1]);
        }
        return x;
    }

    /** One after the other becomes what is told. */
    static ListenerIsTired laid(ListenerIsTired x, int what, int... values) {
        for (int one = 0; one < values.length; one++) {
            x.set(what, one, values[one]);
        }
        return x;
    }

    static void stand(ListenerIsTired x, int what, int... values) {
        for (int one = 0; one < values.length; one++) {
            due(x, values[one], "told", one, what);
        }
    }

    static int read(ListenerIsTired x, String letters) {
        for (int i = 0; i < letters.length(); i++) {
            x.feed(letters.charAt(i));
        }
        return x.text();
    }

    static ListenerIsTired ruled(ListenerIsTired x, String does, String weighs, String spares) {
        String letters = "does " + does + ";weighs " + weighs + ";spares " + spares + ";";
        int text = read(x, letters);
        same("text of " + letters, x.count(3) - 1, text);
        x.force(text);
        return x;
    }

    static ListenerIsTired row(ListenerIsTired x, int sheet, int sort, int... items) {
        x.sheet(sheet, sort, items.length);
        for (int i = 0; i < items.length; i++) {
            x.cell(sheet, i, items[i]);
        }
        return x;
    }

    /** Item i of a SHEET is v (0 .. 99): one without a listener's fatigue is TIRED v on the next DAY, too; x is changed. */
    static boolean itemIs(ListenerIsTired x, int sheet, int i, int v) {
        for (int one = 0; one < x.count(0); one++) {
            x.set(EAR, one, NONE);
            x.set(ASLEEP, one, 0);
        }
        x.set(TIRED, 0, v);
        return x.copy(sheet, i, sheet, 0, 1) == 1 && x.tells(sheet, 0, 0, 0) != 0;
    }
}
