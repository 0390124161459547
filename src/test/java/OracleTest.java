import java.lang.reflect.Method;
import java.util.ArrayList;
import java.util.Arrays;
import java.util.Comparator;
import java.util.List;
import java.util.Random;

/** Long runs of calls by fixed seeds: the class and PlainListener answer alike, and nothing is ever thrown. */
public final class OracleTest {
    private static final int RUNS = 700;
    private static final int CALLS = 512;
    private static final int[] ODD = {Integer.MIN_VALUE, Integer.MAX_VALUE, -1, -2, -100, 255, 256, 1000, 41, 161, 65536};
    private static final String[] WORDS = {"does", "weighs", "spares", "or", "and", "not", "tired", "story", "number",
        "day", "asleep", "heard", "(", ")", ";", "+", "-", "*", "<", "=", "0", "1", "7", "10", "99", "9999", "12345",
        "x", "A", "%", "\t"};

    private final Random random;
    private final ListenerIsTired object = new ListenerIsTired();
    private final PlainListener plain = new PlainListener();
    private final List<String> done = new ArrayList<>();

    private OracleTest(long seed) {
        random = new Random(seed);
    }

    public static void main(String[] args) throws Exception {
        int wrong = 0;
        for (int run = 0; run < RUNS && wrong < 5; run++) {
            wrong += new OracleTest(run).goes(run) ? 0 : 1;
        }
        System.out.println("OracleTest: " + RUNS + " runs, " + wrong + " with a wrong answer");
        if (wrong != 0) {
            System.exit(1);
        }
    }

    private static List<Method> face() {
        List<Method> face = new ArrayList<>();
        for (Method m : ListenerIsTired.class.getDeclaredMethods()) {
            if (java.lang.reflect.Modifier.isPublic(m.getModifiers())) {
                face.add(m);
            }
        }
        face.sort(Comparator.comparing(Method::getName));
        return face;
    }

    private boolean goes(int run) throws Exception {
        List<Method> face = face();
        int calls = 0;
        boolean fine = true;
        for (int i = 0; i < random.nextInt(7) && fine; i++) {
            fine = calls("person", random.nextInt(6), random.nextInt(10));
        }
        while (fine && calls < CALLS) {
            if (random.nextInt(25) == 0) {
                fine = feeds(run);
                calls += 60;
                continue;
            }
            Method m = face.get(random.nextInt(face.size()));
            boolean isDear = m.getName().equals("ears");
            boolean isRare = List.of("feed", "text").contains(m.getName());
            if (isRare && random.nextInt(4) != 0 || isDear && random.nextInt(20) != 0) {
                continue;
            }
            int[] values = new int[m.getParameterCount()];
            for (int i = 0; i < values.length; i++) {
                values[i] = valueFor(m.getName(), i);
            }
            fine = calls(m.getName(), values);
            calls++;
        }
        return fine;
    }

    private int valueFor(String name, int i) {
        if (random.nextInt(40) == 0) {
            return ODD[random.nextInt(ODD.length)];
        }
        int[] most = mostFor(name);
        int v = random.nextInt(most[i] + 2) - (random.nextInt(6) == 0 ? 1 : 0);
        return name.equals("hears") && i == 1 ? v - 99 : v;
    }

    private int[] mostFor(String name) {
        switch (name) {
            case "set": {
                int[][] all = {{6, 4, 99}, {6, 4, 9}, {6, 4, 4}, {6, 4, 1}, {0, 0, 999}};
                return all[random.nextInt(all.length)];
            }
            case "person": return new int[] {5, 9};
            case "told": return new int[] {4, 9};
            case "hears": return new int[] {4, 198};
            case "feed": return new int[] {255};
            case "force": return new int[] {2};
            case "run": return new int[] {4, 40, 4};
            case "ears": return new int[] {3, 2};
            case "tells": return new int[] {3, 4, 4, 7};
            case "film": return new int[] {3, 4, random.nextBoolean() ? 5 : 20};
            case "drawn": return new int[] {100000, 40};
            case "chance": return new int[] {100000, 20, random.nextBoolean() ? 150 : 500, 1};
            case "count": return new int[] {5};
            case "sheet": return new int[] {3, 2, random.nextBoolean() ? 10 : 40};
            case "cell": return new int[] {3, 10, random.nextBoolean() ? 9 : 300};
            case "copy": return new int[] {3, 10, 3, 10, 5};
            case "valley": return new int[] {3, 2, 10, 5};
            case "taken": return new int[] {4, 5};
            case "spread": case "aunt": return new int[] {4, 1};
            default: return new int[] {4, 4, 4};
        }
    }

    /** A TEXT, mostly a good one, byte by byte; then it mostly becomes THE RULE. */
    private boolean feeds(int run) throws Exception {
        String text = sum("does", run) + sum(" weighs", run) + sum("\nspares", run);
        if (random.nextInt(3) == 0) {
            text = spoilt(text);
        }
        for (int i = 0; i < text.length(); i++) {
            if (!calls("feed", text.charAt(i))) {
                return false;
            }
        }
        return calls("text") && calls("force", random.nextInt(6));
    }

    private String spoilt(String text) {
        int at = random.nextInt(text.length() + 1);
        switch (random.nextInt(4)) {
            case 0: return text.substring(0, at);
            case 1: return text.substring(0, at) + WORDS[random.nextInt(WORDS.length)] + text.substring(at);
            case 2: return text.substring(0, at) + " " + WORDS[random.nextInt(WORDS.length)] + " " + text.substring(at);
            default: return text.substring(0, at) + text.substring(Math.min(text.length(), at + 1));
        }
    }

    private String sum(String key, int run) {
        String sum;
        do {
            sum = either(run % 5 + 1);
        } while (sum.length() > 45);
        return key + " " + sum + (random.nextBoolean() ? " ;" : ";");
    }

    private String either(int depth) {
        int kind = random.nextInt(depth > 0 ? 12 : 3);
        String gap = random.nextInt(3) == 0 ? "" : " ";
        switch (kind) {
            case 0: return String.valueOf(random.nextInt(random.nextBoolean() ? 12 : 200));
            case 1: case 2: return WORDS[6 + random.nextInt(6)];
            case 3: return either(depth - 1) + gap + "+" + gap + either(depth - 1);
            case 4: return either(depth - 1) + gap + "-" + gap + either(depth - 1);
            case 5: return either(depth - 1) + gap + "*" + gap + either(depth - 1);
            case 6: return either(depth - 1) + gap + "<" + gap + either(depth - 1);
            case 7: return either(depth - 1) + gap + "=" + gap + either(depth - 1);
            case 8: return either(depth - 1) + (random.nextBoolean() ? " or " : " and ") + either(depth - 1);
            case 9: return "not " + either(depth - 1);
            case 10: return "-" + gap + either(depth - 1);
            default: return "(" + gap + either(depth - 1) + gap + ")";
        }
    }

    private boolean calls(String name, int... values) throws Exception {
        Class<?>[] types = new Class<?>[values.length];
        Arrays.fill(types, int.class);
        Object[] boxed = Arrays.stream(values).boxed().toArray();
        Object due = PlainListener.class.getMethod(name, types).invoke(plain, boxed);
        Object got = ListenerIsTired.class.getMethod(name, types).invoke(object, boxed);
        String call = name + Arrays.toString(values) + " = " + due;
        done.add(call);
        if (due.equals(got)) {
            return true;
        }
        System.out.println("got " + got + " at the end of " + String.join(", ", done));
        return false;
    }
}
