import java.lang.reflect.Method;
import java.util.ArrayList;
import java.util.Arrays;
import java.util.Comparator;
import java.util.List;
import java.util.Random;

/** Long runs of calls by fixed seeds: the class and PlainListener answer alike, and nothing is ever thrown. */
public final class OracleTest {
    private static final int RUNS = 400;
    private static final int CALLS = 512;
    private static final int[] ODD = {Integer.MIN_VALUE, Integer.MAX_VALUE, -1, -2, -100, 255, 256, 1000, 41, 161, 65536};
    private static final String[] WORDS = {"does", "weighs", "spares", "or", "and", "not", "tired", "story", "number",
        "day", "asleep", "heard", "(", ")", ";", "+", "-", "*", "<", "=", "0", "1", "7", "10", "99", "9999", "12345",
        "x", "A", "%", "\t"};

    private final Random random;
    private final ListenerIsTired object = new ListenerIsTired();
    private final PlainListener plain = new PlainListener();
    private final List<String> done = new ArrayList<>();

    private OracleTest(long seed) {
        random = new Random(seed);
    }

    public static void main(String[] args) throws Exception {
        int wrong = 0;
        for (int run = 0; run < RUNS && wrong < 5; run++) {
            wrong += new OracleTest(run).goes(run) ? 0 : 1;
        }
        System.out.println("OracleTest: " + RUNS + " runs, " + wrong + " with a wrong answer");
        if (wrong != 0) {
            System.exit(1);
        }
    }

    private static List<Method> face() {
        List<Method> face = new ArrayList<>();
        for (Method m : ListenerIsTired.class.getDeclaredMethods()) {
            if (java.lang.reflect.Modifier.isPublic(m.getModifiers())) {
                face.add(m);
            }
        }
        face.sort(Comparator.comparing(Method::getName));
        return face;
    }

    private boolean goes(int run) throws Exception {
        List<Method> face = face();
        int people = run % 8 == 0 ? random.nextInt(5) : 2 + random.nextInt(4);
        boolean fine = true;
        for (int i = 0; i < people && fine; i++) {
            fine = calls("person", random.nextInt(6), random.nextInt(10));
        }
        for (int i = 0; i < people && fine; i++) {
            fine = calls("set", 4, i, random.nextInt(people + 1) - 1) && calls("set", 2, i, random.nextInt(100));
        }
        while (fine && done.size() < CALLS) {
            int choice = random.nextInt(40);
            if (choice == 0) {
                fine = feeds(run);
            } else if (choice < 4) {
                fine = filmsAndTells();
            } else {
                Method m = face.get(random.nextInt(face.size()));
                fine = random.nextInt(rarity(m.getName())) != 0
                        || calls(m.getName(), valuesFor(m));
            }
        }
        return fine;
    }

    private static int rarity(String name) {
        switch (name) {
            case "ears": return 25;
            case "image": case "back": case "feed": case "text": return 12;
            case "count": case "mean": case "force": case "round": return 3;
            default: return 1;
        }
    }

    private int[] valuesFor(Method m) {
        int[] values = new int[m.getParameterCount()];
        int[] most = mostFor(m.getName());
        for (int i = 0; i < values.length; i++) {
            int choice = random.nextInt(60);
            if (choice == 0) {
                values[i] = ODD[random.nextInt(ODD.length)];
            } else {
                values[i] = choice < 3 ? most[i] + 1 : choice < 5 ? -1 : random.nextInt(most[i] + 1);
            }
            if (m.getName().equals("hears") && i == 1) {
                values[i] -= 99;
            }
        }
        return values;
    }

    /** A SHEET that tells what is true, or nearly so, is asked about. */
    private boolean filmsAndTells() throws Exception {
        int sheet = random.nextInt(4);
        int one = random.nextInt(5);
        int n = random.nextInt(random.nextBoolean() ? 4 : 21);
        boolean fine = calls("film", sheet, one, n);
        if (random.nextInt(3) == 0) {
            fine = fine && calls("cell", sheet, random.nextInt(n + 1), random.nextInt(100));
        }
        if (random.nextInt(3) == 0) {
            fine = fine && calls("set", 1 + random.nextInt(3), random.nextInt(5), random.nextInt(10));
        }
        for (int what = 0; what < 8; what++) {
            fine = fine && calls("tells", sheet, one, random.nextInt(5), what);
        }
        return fine;
    }

    private int[] mostFor(String name) {
        switch (name) {
            case "set": {
                int[][] all = {{6, 4, 99}, {6, 4, 9}, {6, 4, 4}, {6, 4, 1}, {6, 4, 1}};
                return all[random.nextInt(all.length)];
            }
            case "person": return new int[] {5, 9};
            case "told": return new int[] {4, 9};
            case "hears": return new int[] {4, 198};
            case "feed": return new int[] {255};
            case "force": return new int[] {5};
            case "run": return new int[] {4, 40, 4};
            case "ears": return new int[] {3, 2};
            case "tells": return new int[] {3, 4, 4, 7};
            case "film": return new int[] {3, 4, random.nextBoolean() ? 5 : 20};
            case "drawn": return new int[] {100000, 40};
            case "chance": return new int[] {100000, 20, random.nextBoolean() ? 150 : 500, 1};
            case "count": return new int[] {5};
            case "sheet": return new int[] {3, 2, random.nextBoolean() ? 20 : 40};
            case "cell": return new int[] {3, 10, random.nextBoolean() ? 9 : 300};
            case "copy": return new int[] {3, 5, 3, 5, 5};
            case "valley": return new int[] {3, random.nextInt(3), 10, 5};
            case "taken": return new int[] {4, 5};
            case "spread": case "aunt": return new int[] {4, 1};
            default: return new int[] {4, 4, 4};
        }
    }

    /** A TEXT, mostly a good one, byte by byte; then it mostly becomes THE RULE. */
    private boolean feeds(int run) throws Exception {
        if (random.nextInt(4) != 0 && !calls("text")) {
            return false;
        }
        String text = sum("does", run) + sum(" weighs", run) + sum("\nspares", run);
        if (random.nextInt(3) == 0) {
            text = spoilt(text);
        }
        for (int i = 0; i < text.length(); i++) {
            if (!calls("feed", text.charAt(i))) {
                return false;
            }
        }
        return calls("text") && calls("force", random.nextInt(6));
    }

    private String spoilt(String text) {
        int at = random.nextInt(text.length() + 1);
        switch (random.nextInt(4)) {
            case 0: return text.substring(0, at);
            case 1: return text.substring(0, at) + WORDS[random.nextInt(WORDS.length)] + text.substring(at);
            case 2: return text.substring(0, at) + " " + WORDS[random.nextInt(WORDS.length)] + " " + text.substring(at);
            default: return text.substring(0, at) + text.substring(Math.min(text.length(), at + 1));
        }
    }

    private String sum(String key, int run) {
        String sum;
        do {
            sum = either(run % 5 + 1);
        } while (sum.length() > 45);
        return key + " " + sum + (random.nextBoolean() ? " ;" : ";");
    }

    private String either(int depth) {
        int kind = random.nextInt(depth > 0 ? 12 : 3);
        String gap = random.nextInt(3) == 0 ? "" : " ";
        switch (kind) {
            case 0: return String.valueOf(random.nextInt(random.nextBoolean() ? 12 : 200));
            case 1: case 2: return WORDS[6 + random.nextInt(6)];
            case 3: return either(depth - 1) + gap + "+" + gap + either(depth - 1);
            case 4: return either(depth - 1) + gap + "-" + gap + either(depth - 1);
            case 5: return either(depth - 1) + gap + "*" + gap + either(depth - 1);
            case 6: return either(depth - 1) + gap + "<" + gap + either(depth - 1);
            case 7: return either(depth - 1) + gap + "=" + gap + either(depth - 1);
            case 8: return either(depth - 1) + (random.nextBoolean() ? " or " : " and ") + either(depth - 1);
            case 9: return "not " + either(depth - 1);
            case 10: return "-" + gap + either(depth - 1);
            default: return "(" + gap + either(depth - 1) + gap + ")";
        }
    }

    private boolean calls(String name, int... values) throws Exception {
        if (done.size() == CALLS) {
            return true;
        }
        Class<?>[] types = new Class<?>[values.length];
        Arrays.fill(types, int.class);
        Object[] boxed = Arrays.stream(values).boxed().toArray();
        Object due = PlainListener.class.getMethod(name, types).invoke(plain, boxed);
        Object got = ListenerIsTired.class.getMethod(name, types).invoke(object, boxed);
        String call = name + Arrays.toString(values) + " = " + due;
        done.add(call);
        if (due.equals(got)) {
            return true;
        }
        System.out.println("got " + got + " at the end of " + String.join(", ", done));
        return false;
    }
}
