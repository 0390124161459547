import java.util.ArrayDeque;
import java.util.ArrayList;
import java.util.Deque;
import java.util.List;
import java.util.regex.Matcher;
import java.util.regex.Pattern;

/**
 * The document once more, in other ways than the class goes: KINDS are classes that ask the one above, TEXTS are worked
 * out from their letters each time, a FAULT is found without reading the grammar downwards, what is thought is a copy.
 */
public final class PlainListener {
    static final int NONE = -1, BAD = -2, STATE = -3, FULL = -4;
    static final long NO = -4611686018427387904L;

    private static int between(int v, int least, int most) {
        return Math.max(least, Math.min(most, v));
    }

    private static boolean is(int v, int least, int most) {
        return least <= v && v <= most;
    }

    private static class Teller {
        int number, tired, story, heard;
        int ear = NONE;
        boolean asleep;

        int does(int v) {
            return v;
        }

        int weighs(int w, int v) {
            return w + v;
        }

        final int hears(int l, int v) {
            return l <= 0 ? l : hearsMore(l, v);
        }

        int hearsMore(int l, int v) {
            return Math.max(0, l - v);
        }
    }

    private static class Wife extends Teller {
        @Override int does(int v) {
            return super.does(v) / 2;
        }

        @Override int weighs(int w, int v) {
            return w;
        }

        @Override int hearsMore(int l, int v) {
            return super.hearsMore(l, v) + number;
        }
    }

    private static class Deaf extends Teller {
        @Override int does(int v) {
            return super.does(v) + number;
        }

        @Override int weighs(int w, int v) {
            return 2 * super.weighs(w, v);
        }

        @Override int hearsMore(int l, int v) {
            return 0;
        }
    }

    private static final class Aunt extends Wife {
        @Override int does(int v) {
            return tired < 50 ? super.does(v) : 0;
        }

        @Override int weighs(int w, int v) {
            return Math.max(0, super.weighs(w, v) - number);
        }

        @Override int hearsMore(int l, int v) {
            return story == 0 ? 2 * super.hearsMore(l, v) : super.hearsMore(l, v);
        }
    }

    private static final class Dog extends Deaf {
        @Override int does(int v) {
            return 0;
        }

        @Override int weighs(int w, int v) {
            return 0;
        }

        @Override int hearsMore(int l, int v) {
            return l / 2;
        }
    }

    private static final class Liar extends Teller {
        @Override int weighs(int w, int v) {
            return 0 - w / 2;
        }
    }

    private static final List<Class<?>> KINDS =
            List.of(Teller.class, Wife.class, Deaf.class, Aunt.class, Dog.class, Liar.class);

    private static Teller made(int kind) {
        switch (kind) {
            case 0: return new Teller();
            case 1: return new Wife();
            case 2: return new Deaf();
            case 3: return new Aunt();
            case 4: return new Dog();
            default: return new Liar();
        }
    }

    private static int kindOf(Teller one) {
        return KINDS.indexOf(one.getClass());
    }

    private static Teller copyAs(Teller one, int kind) {
        Teller other = made(kind);
        other.number = one.number;
        other.tired = one.tired;
        other.story = one.story;
        other.ear = one.ear;
        other.heard = one.heard;
        other.asleep = one.asleep;
        return other;
    }

    /** One part of a TEXT, worked out from its letters. */
    private static final class Sum {
        private final String[] tokens;
        private final Teller one;
        private final State state;
        private int at = 0;

        Sum(String letters, Teller one, State state) {
            Matcher m = TOKEN.matcher(letters);
            List<String> found = new ArrayList<>();
            while (m.find()) {
                found.add(m.group());
            }
            found.add("");
            tokens = found.toArray(new String[0]);
            this.one = one;
            this.state = state;
        }

        private boolean comes(String token) {
            if (!tokens[at].equals(token)) {
                return false;
            }
            at++;
            return true;
        }

        int level(int level) {
            if (level == 4) {
                return single();
            }
            if (level == 2 && comes("not")) {
                return level(2) == 0 ? 1 : 0;
            }
            int v = level == 2 ? sum() : level(level + 1);
            while (true) {
                if (level == 0 && comes("or")) {
                    int w = level(1);
                    v = v != 0 | w != 0 ? 1 : 0;
                } else if (level == 1 && comes("and")) {
                    int w = level(2);
                    v = v != 0 & w != 0 ? 1 : 0;
                } else if (level == 2 && comes("<")) {
                    v = v < sum() ? 1 : 0;
                } else if (level == 2 && comes("=")) {
                    v = v == sum() ? 1 : 0;
                } else if (level == 3 && comes("*")) {
                    v *= level(4);
                } else {
                    return v;
                }
            }
        }

        private int sum() {
            int v = level(3);
            while (true) {
                if (comes("+")) {
                    v += level(3);
                } else if (comes("-")) {
                    v -= level(3);
                } else {
                    return v;
                }
            }
        }

        private int single() {
            if (comes("-")) {
                return -single();
            }
            if (comes("(")) {
                int v = level(0);
                at++;
                return v;
            }
            String token = tokens[at++];
            switch (token) {
                case "tired": return one.tired;
                case "story": return one.story;
                case "number": return one.number;
                case "day": return state.day;
                case "asleep": return Integer.bitCount(state.asleep());
                case "heard": return one.heard;
                default: return Integer.parseInt(token);
            }
        }
    }

    private static final Pattern TOKEN = Pattern.compile("[a-z]+|[0-9]+|[();+\\-*<=]");
    private static final List<String> NAMES = List.of("tired", "story", "number", "day", "asleep", "heard");
    private static final List<String> PARTS = List.of("does", "weighs", "spares");

    /** The place of the FAULT or NONE: what may come next is known from what is open. */
    static int faultOf(String letters) {
        int part = 0;
        boolean partBegun = false;
        boolean wantsOne = true;
        boolean notMayCome = true;
        boolean compared = false;
        Deque<String> open = new ArrayDeque<>();
        Deque<Boolean> comparedAround = new ArrayDeque<>();
        int at = 0;
        while (true) {
            while (at < letters.length() && " \n".indexOf(letters.charAt(at)) >= 0) {
                at++;
            }
            if (at == letters.length()) {
                return part == 3 && !partBegun ? NONE : at;
            }
            Matcher m = TOKEN.matcher(letters).region(at, letters.length());
            if (!m.lookingAt()) {
                return at;
            }
            String token = m.group();
            boolean isOperand = NAMES.contains(token) || Character.isDigit(token.charAt(0)) && token.length() <= 4;
            if (!partBegun) {
                if (part == 3 || !token.equals(PARTS.get(part))) {
                    return at;
                }
                partBegun = true;
                wantsOne = true;
                notMayCome = true;
                compared = false;
            } else if (wantsOne) {
                if (isOperand) {
                    wantsOne = false;
                    closeMinus(open);
                } else if (token.equals("(") || token.equals("-") || token.equals("not") && notMayCome) {
                    if (open.size() == 5) {
                        return at;
                    }
                    open.push(token);
                    if (token.equals("(")) {
                        comparedAround.push(compared);
                        compared = false;
                        notMayCome = true;
                    } else if (token.equals("-")) {
                        notMayCome = false;
                    }
                } else {
                    return at;
                }
            } else {
                switch (token) {
                    case "+": case "-": case "*":
                        break;
                    case "<": case "=":
                        if (compared) {
                            return at;
                        }
                        compared = true;
                        break;
                    case "and": case "or": case ")": case ";":
                        while (!open.isEmpty() && open.peek().equals("not")) {
                            open.pop();
                        }
                        break;
                    default:
                        return at;
                }
                if (token.equals(")")) {
                    if (open.isEmpty()) {
                        return at;
                    }
                    open.pop();
                    compared = comparedAround.pop();
                    closeMinus(open);
                } else if (token.equals(";")) {
                    if (!open.isEmpty()) {
                        return at;
                    }
                    part++;
                    partBegun = false;
                } else {
                    wantsOne = true;
                    notMayCome = token.equals("and") || token.equals("or");
                    compared = compared && !notMayCome;
                }
            }
            at = m.end();
        }
    }

    private static void closeMinus(Deque<String> open) {
        while (!open.isEmpty() && open.peek().equals("-")) {
            open.pop();
        }
    }

    private final class State {
        int day;
        int rule;
        List<Teller> people = new ArrayList<>();

        State copy() {
            State other = new State();
            other.day = day;
            other.rule = rule;
            for (Teller one : people) {
                other.people.add(copyAs(one, kindOf(one)));
            }
            return other;
        }

        int told(int part, Teller one) {
            String letters = texts.get(rule);
            String[] parts = letters.split(";");
            String sum = parts[part].trim().substring(PARTS.get(part).length());
            return between(new Sum(sum, one, this).level(0), 0, 99);
        }

        int does(Teller one) {
            return between(one.does(told(0, one)), 0, 99);
        }

        int weighs(Teller one) {
            return between(one.weighs(one.story, told(1, one)), -99, 99);
        }

        int hears(Teller one, int load) {
            return between(one.hears(load, told(2, one)), -99, 99);
        }

        void tell(Teller one, Teller other) {
            hearLoad(other, weighs(one));
            one.story = 0;
        }

        void hearLoad(Teller other, int load) {
            other.tired = between(other.tired + hears(other, load), 0, 99);
            other.heard = Math.min(99, other.heard + 1);
        }

        State passed(int days) {
            for (int i = 0; i < days; i++) {
                pass();
            }
            return this;
        }

        void pass() {
            for (Teller one : people) {
                if (one.asleep) {
                    one.tired = Math.max(0, one.tired - 20);
                } else {
                    one.story = Math.min(99, one.story + does(one));
                    if (one.ear != NONE && !people.get(one.ear).asleep) {
                        tell(one, people.get(one.ear));
                    }
                }
            }
            for (Teller one : people) {
                one.asleep = one.tired >= 80 || one.tired >= 40 && one.asleep;
            }
            day++;
        }

        int asleep() {
            int bits = 0;
            for (int i = 0; i < people.size(); i++) {
                bits += people.get(i).asleep ? 1 << i : 0;
            }
            return bits;
        }

        int tired() {
            return people.stream().mapToInt(one -> one.tired).sum();
        }

        int mostTired() {
            return people.stream().mapToInt(one -> one.tired).max().orElse(0);
        }

        String face() {
            StringBuilder b = new StringBuilder();
            for (Teller one : people) {
                b.append(one.tired).append(',').append(one.story).append(',').append(one.asleep).append(';');
            }
            return b.toString();
        }
    }

    private final List<String> texts = new ArrayList<>(List.of("does 10 ; weighs 0 ; spares number ;"));
    private StringBuilder tape = new StringBuilder();
    private State now = new State();
    private State kept;
    private final Object[] sheets = new Object[4];

    private boolean there(int... ones) {
        for (int one : ones) {
            if (!is(one, 0, now.people.size() - 1)) {
                return false;
            }
        }
        return true;
    }

    private Teller one(int i) {
        return now.people.get(i);
    }

    public int set(int what, int of, int v) {
        int was;
        if (what == 0) {
            if (!is(v, 0, 999)) {
                return -1000;
            }
            was = now.day;
            now.day = v;
            return was;
        }
        if (!is(what, 1, 6) || !there(of)) {
            return -1000;
        }
        Teller p = one(of);
        int most = new int[] {0, 9, 99, 99, now.people.size() - 1, 99, 1}[what];
        if (!is(v, what == 4 ? NONE : 0, most) || what == 4 && v == of) {
            return -1000;
        }
        was = told(of, what);
        switch (what) {
            case 1: p.number = v; break;
            case 2: p.tired = v; break;
            case 3: p.story = v; break;
            case 4: p.ear = v; break;
            case 5: p.heard = v; break;
            default: p.asleep = v == 1; break;
        }
        return was;
    }

    public int person(int kind, int number) {
        if (!is(kind, 0, 5) || !is(number, 0, 9)) {
            return BAD;
        }
        if (now.people.size() == 5) {
            return FULL;
        }
        Teller p = made(kind);
        p.number = number;
        now.people.add(p);
        return now.people.size() - 1;
    }

    public int told(int of, int what) {
        if (what == 0) {
            return now.day;
        }
        if (!is(what, 1, 9) || !there(of)) {
            return -1000;
        }
        Teller p = one(of);
        return new int[] {0, p.number, p.tired, p.story, p.ear, p.heard, p.asleep ? 1 : 0, kindOf(p), now.does(p),
            1000 + now.weighs(p)}[what];
    }

    public int hears(int one, int load) {
        return there(one) && is(load, -99, 99) ? 1000 + now.hears(one(one), load) : BAD;
    }

    public int feed(int letter) {
        if (!is(letter, 0, 255)) {
            return BAD;
        }
        if (tape.length() == 160) {
            return FULL;
        }
        return tape.append((char) letter).length();
    }

    public int text() {
        if (texts.size() == 6) {
            return FULL;
        }
        String letters = tape.toString();
        tape = new StringBuilder();
        int fault = faultOf(letters);
        if (fault != NONE) {
            return -100 - fault;
        }
        texts.add(letters);
        return texts.size() - 1;
    }

    public int force(int text) {
        if (!is(text, 0, texts.size() - 1)) {
            return BAD;
        }
        int was = now.rule;
        now.rule = text;
        return was;
    }

    public int tell(int one, int other) {
        if (!there(one, other) || one == other) {
            return BAD;
        }
        if (one(one).asleep || one(other).asleep) {
            return STATE;
        }
        now.tell(one(one), one(other));
        return one(other).tired;
    }

    public int day() {
        if (now.day == 999) {
            return STATE;
        }
        now.pass();
        return now.asleep();
    }

    public int run(int one, int n, int what) {
        if (!there(one) || !is(n, 0, 40) || !is(what, 0, 4)) {
            return BAD;
        }
        State then = now.copy().passed(n);
        Teller p = then.people.get(one);
        return new int[] {p.tired, p.story, then.asleep(), then.tired(), p.heard}[what];
    }

    public int sleeps(int one) {
        if (!there(one)) {
            return BAD;
        }
        for (int days = 0; days <= 60; days++) {
            if ((now.copy().passed(days).asleep() >> one & 1) == 1) {
                return days;
            }
        }
        return NONE;
    }

    public int round() {
        List<String> faces = new ArrayList<>();
        State then = now.copy();
        for (int days = 0; days <= 60; days++) {
            if (faces.contains(then.face())) {
                return days;
            }
            faces.add(then.face());
            then.pass();
        }
        return NONE;
    }

    private int[] bestEars;

    public int ears(int n, int what) {
        if (!is(n, 1, 3) || !is(what, 0, 2)) {
            return BAD;
        }
        bestEars = null;
        tryEars(now.copy(), 0, 0, n);
        return bestEars[what];
    }

    private void tryEars(State lent, int from, int digits, int n) {
        int size = lent.people.size();
        if (from == size) {
            State then = lent.copy().passed(n);
            int[] got = {digits, Integer.bitCount(then.asleep()), then.tired()};
            if (bestEars == null || got[1] < bestEars[1] || got[1] == bestEars[1] && got[2] < bestEars[2]) {
                bestEars = got;
            }
            return;
        }
        for (int ear = NONE; ear < size; ear++) {
            if (ear != from) {
                lent.people.get(from).ear = ear;
                tryEars(lent, from + 1, digits * 10 + ear + 1, n);
            }
        }
    }

    public int spread(int one, int what) {
        if (!there(one) || !is(what, 0, 1)) {
            return BAD;
        }
        int best = NONE;
        for (int bits = 31; bits >= 1; bits--) {
            int many = Integer.bitCount(bits);
            if (bears(one, bits, now.weighs(one(one)) / many) && (best == NONE || many <= Integer.bitCount(best))) {
                best = bits;
            }
        }
        return what == 0 || best == NONE ? best : Integer.bitCount(best);
    }

    private boolean bears(int one, int bits, int part) {
        State then = now.copy();
        for (int other = 0; other < 5; other++) {
            if ((bits >> other & 1) == 0) {
                continue;
            }
            if (other == one || !there(other) || one(other).asleep) {
                return false;
            }
            then.hearLoad(then.people.get(other), part);
            if (then.people.get(other).tired >= 80) {
                return false;
            }
        }
        return true;
    }

    public int aunt(int one, int what) {
        if (!there(one) || !is(what, 0, 1)) {
            return BAD;
        }
        int best = NONE;
        int least = NONE;
        for (int other = now.people.size() - 1; other >= 0; other--) {
            if (other != one && !one(other).asleep) {
                State then = now.copy();
                then.tell(then.people.get(one), then.people.get(other));
                if (best == NONE || then.mostTired() <= least) {
                    best = other;
                    least = then.mostTired();
                }
            }
        }
        return what == 0 ? best : least;
    }

    public int bears(int one, int other) {
        if (!there(one, other) || one == other) {
            return BAD;
        }
        int best = NONE;
        for (int story = 0; story <= 99; story++) {
            State then = now.copy();
            then.people.get(one).story = story;
            then.tell(then.people.get(one), then.people.get(other));
            best = then.people.get(other).tired < 80 ? story : best;
        }
        return best;
    }

    private static long lowest(int above, int below, int part) {
        for (int by = 500; by > 1; by--) {
            if (above % by == 0 && below % by == 0) {
                return lowest(above / by, below / by, part);
            }
        }
        return part == 0 ? above : below;
    }

    public long mean(int part) {
        return is(part, 0, 1) && !now.people.isEmpty() ? lowest(now.tired(), now.people.size(), part) : NO;
    }

    private int size(int sheet) {
        return sheets[sheet] == null ? -1 : java.lang.reflect.Array.getLength(sheets[sheet]);
    }

    private int item(int sheet, int i) {
        return java.lang.reflect.Array.getInt(sheets[sheet], i);
    }

    private int sort(int sheet) {
        Object row = sheets[sheet];
        return row == null ? -1 : row instanceof byte[] ? 0 : row instanceof short[] ? 1 : 2;
    }

    public int tells(int sheet, int one, int by, int what) {
        if (!is(sheet, 0, 3) || !there(one, by) || !is(what, 0, 7)) {
            return BAD;
        }
        if (sheets[sheet] == null) {
            return -11;
        }
        if (size(sheet) > 20) {
            return BAD;
        }
        int most = new int[] {1, 6, 10, 100, 100, 6, texts.size(), now.people.size()}[what];
        int bits = 0;
        int many = 0;
        int least = NONE;
        for (int v = 0; v < most; v++) {
            State then = now.copy();
            Teller p = then.people.get(by);
            switch (what) {
                case 0: return otherwise(sheet, then, one);
                case 1: then.people.set(by, copyAs(p, v)); break;
                case 2: p.number = v; break;
                case 3: case 4: p.story = v; break;
                case 5: p.ear = v == 5 ? NONE : v; break;
                case 6: then.rule = v; break;
                default: break;
            }
            if (what == 5 && v != 5 && (v == by || !there(v))) {
                continue;
            }
            if (otherwise(sheet, then, what == 7 ? v : one) == NONE) {
                bits |= v < 31 ? 1 << v : 0;
                many++;
                least = least == NONE ? v : least;
            }
        }
        return what == 3 ? many : what == 4 ? least : bits;
    }

    private int otherwise(int sheet, State then, int one) {
        for (int i = 0; i < size(sheet); i++) {
            then.pass();
            if (then.people.get(one).tired != item(sheet, i)) {
                return i;
            }
        }
        return NONE;
    }

    public int film(int sheet, int one, int n) {
        if (!is(sheet, 0, 3) || !there(one) || !is(n, 0, 20)) {
            return BAD;
        }
        byte[] row = new byte[n];
        for (int i = 0; i < n; i++) {
            row[i] = (byte) now.copy().passed(i + 1).people.get(one).tired;
        }
        sheets[sheet] = row;
        return n;
    }

    public int drawn(int seed, int n) {
        if (!is(n, 0, 40)) {
            return BAD;
        }
        State then = now.copy();
        int z = seed;
        for (int i = 0; i < n; i++) {
            z = z * 1103515245 + 12345;
            int who = (z >>> 9) % 8;
            z = z * 1103515245 + 12345;
            int whom = (z >>> 9) % 8;
            if (there(who, whom) && who != whom) {
                then.people.get(who).ear = whom;
            }
            then.pass();
        }
        return then.tired();
    }

    public long chance(int seed, int m, int k, int part) {
        if (!is(m, 1, 20) || !is(k, 0, 500) || !is(part, 0, 1)) {
            return NO;
        }
        int many = 0;
        for (int i = 0; i < m; i++) {
            many += drawn(seed + i, 10) >= k ? 1 : 0;
        }
        return lowest(many, m, part);
    }

    public int image() {
        kept = now.copy();
        return kept.people.size();
    }

    public int back() {
        if (kept == null) {
            return STATE;
        }
        now = kept.copy();
        return now.people.size();
    }

    public int count(int what) {
        return is(what, 0, 5) ? new int[] {now.people.size(), Integer.bitCount(now.asleep()), now.day, texts.size(),
            tape.length(), now.rule}[what] : BAD;
    }

    public int sheet(int sheet, int sort, int n) {
        if (!is(sheet, 0, 3) || !is(sort, -1, 2)) {
            return BAD;
        }
        if (sort >= 0 && n > 40) {
            return BAD;
        }
        if (sort >= 0 && n < 0) {
            return -14;
        }
        sheets[sheet] = sort == 0 ? new byte[n] : sort == 1 ? new short[n] : sort == 2 ? new int[n] : null;
        return 1;
    }

    public int cell(int sheet, int i, int v) {
        if (!is(sheet, 0, 3)) {
            return BAD;
        }
        if (sheets[sheet] == null) {
            return -11;
        }
        if (!is(i, 0, size(sheet) - 1)) {
            return -12;
        }
        Object row = sheets[sheet];
        if (row instanceof byte[]) {
            ((byte[]) row)[i] = (byte) v;
        } else if (row instanceof short[]) {
            ((short[]) row)[i] = (short) v;
        } else {
            ((int[]) row)[i] = v;
        }
        return 1;
    }

    public int copy(int sheet, int i, int other, int j, int n) {
        if (!is(sheet, 0, 3) || !is(other, 0, 3)) {
            return BAD;
        }
        try {
            System.arraycopy(sheets[sheet], i, sheets[other], j, n);
            return n;
        } catch (NullPointerException e) {
            return -11;
        } catch (ArrayStoreException e) {
            return -13;
        } catch (IndexOutOfBoundsException e) {
            return -12;
        }
    }

    public int valley(int sheet, int sort, int from, int n) {
        if (!is(sheet, 0, 3) || !is(sort, 0, 2) || !is(n, 0, 5)) {
            return BAD;
        }
        if (sheets[sheet] == null) {
            return -11;
        }
        if (sort(sheet) != sort) {
            return -13;
        }
        int came = 0;
        for (long at = from; at < from + 2L * n; at += 2) {
            if (at < 0 || at + 1 >= size(sheet)) {
                return -12;
            }
            came += person(item(sheet, (int) at), item(sheet, (int) at + 1)) >= 0 ? 1 : 0;
        }
        return came;
    }

    public int taken(int one, int k) {
        if (!is(k, 0, 5)) {
            return BAD;
        }
        if (!there(one)) {
            return -11;
        }
        return KINDS.get(k).isInstance(one(one)) ? one(one).number : -13;
    }
}
