import java.util.Arrays;

/** It is the listener who is tired: a valley of up to five people who do, tell, hear and fall asleep. */
public final class ListenerIsTired {
    public static final int NONE = -1, BAD = -2, STATE = -3, FULL = -4;
    public static final long NO = -4611686018427387904L;

    private static final int NO_VALUE = -1000;
    private static final int RAISED = 1000;
    private static final int FAULT_FROM = -100;
    private static final int NOTHING_THERE = -11, OUTSIDE = -12, UNLIKE = -13, BELOW_NOTHING = -14;

    private static final int DAY_MOST = 999;
    private static final int NUMBER_MOST = 9;
    private static final int MOST = 99;
    private static final int PEOPLE_MOST = 5;
    private static final int TEXTS_MOST = 6;
    private static final int TAPE_MOST = 160;
    private static final int SHEETS = 4;
    private static final int SHEET_MOST = 40;
    private static final int SORTS = 3;
    private static final int TOLD_MOST = 20;
    private static final int RUN_MOST = 40;
    private static final int LOOK_AHEAD = 60;
    private static final int TIRED_OUT = 80;
    private static final int RESTED = 40;

    private static final int TELLER = 0, WIFE = 1, DEAF = 2, AUNT = 3, DOG = 4, LIAR = 5;
    private static final int KINDS = 6;
    /** Of each KIND the one that it is under. */
    private static final int[] UNDER = {NONE, TELLER, TELLER, WIFE, DEAF, TELLER};

    private static final int DOES = 0, WEIGHS = 1, SPARES = 2, PARTS = 3;

    private static final int OF_DAY = 0, OF_NUMBER = 1, OF_TIRED = 2, OF_STORY = 3;
    private static final int OF_EAR = 4, OF_HEARD = 5, OF_ASLEEP = 6;

    private static final int BY_KIND = 1, BY_NUMBER = 2, BY_STORY = 3, LEAST_STORY = 4;
    private static final int BY_EAR = 5, BY_TEXT = 6, BY_PERSON = 7;
    private static final int NO_EAR_BIT = 5;

    private final Rule[] rules = new Rule[TEXTS_MOST];
    private int texts;
    private final Tape tape = new Tape();
    private final Reader reader = new Reader(tape);
    private final Valley now;
    /** What a call thinks ahead with; nothing in it outlives the call. */
    private final Valley thought;
    private final Valley kept;
    private boolean isKept;
    private final Sheet[] sheets = new Sheet[SHEETS];
    private final long[] pastTired = new long[LOOK_AHEAD + 1];
    private final long[] pastStories = new long[LOOK_AHEAD + 1];

    public ListenerIsTired() {
        for (int i = 0; i < TEXTS_MOST; i++) {
            rules[i] = new Rule(i);
        }
        for (int i = 0; i < SHEETS; i++) {
            sheets[i] = new Sheet();
        }
        tape.layFirstText();
        reader.readInto(rules[0]);
        tape.size = 0;
        texts = 1;
        now = new Valley(rules[0]);
        thought = new Valley(rules[0]);
        kept = new Valley(rules[0]);
    }

    // ---- people

    public int set(int what, int of, int v) {
        if (what == OF_DAY) {
            return setDay(v);
        }
        if (!now.isThere(of) || !maySet(what, of, v)) {
            return NO_VALUE;
        }
        Person person = now.people[of];
        int was = person.attribute(what);
        person.lay(what, v);
        return was;
    }

    private int setDay(int v) {
        if (v < 0 || v > DAY_MOST) {
            return NO_VALUE;
        }
        int was = now.day;
        now.day = v;
        return was;
    }

    private boolean maySet(int what, int of, int v) {
        switch (what) {
            case OF_NUMBER:
                return isWithin(v, 0, NUMBER_MOST);
            case OF_TIRED:
            case OF_STORY:
            case OF_HEARD:
                return isWithin(v, 0, MOST);
            case OF_EAR:
                return v == NONE || v != of && now.isThere(v);
            case OF_ASLEEP:
                return isWithin(v, 0, 1);
            default:
                return false;
        }
    }

    public int person(int kind, int number) {
        return comesOne(kind, number);
    }

    private int comesOne(int kind, int number) {
        if (!isWithin(kind, 0, KINDS - 1) || !isWithin(number, 0, NUMBER_MOST)) {
            return BAD;
        }
        if (now.size >= PEOPLE_MOST) {
            return FULL;
        }
        now.people[now.size].comeAs(kind, number);
        now.size++;
        return now.size - 1;
    }

    public int told(int of, int what) {
        if (what == OF_DAY) {
            return now.day;
        }
        if (!now.isThere(of) || !isWithin(what, OF_NUMBER, 9)) {
            return NO_VALUE;
        }
        Person person = now.people[of];
        if (what == 7) {
            return person.kind;
        }
        if (what == 8) {
            return now.doesOf(person);
        }
        return what == 9 ? RAISED + now.weighsOf(person) : person.attribute(what);
    }

    public int hears(int one, int load) {
        if (!now.isThere(one) || !isWithin(load, -MOST, MOST)) {
            return BAD;
        }
        return RAISED + now.hearsOf(now.people[one], load);
    }

    // ---- texts

    public int feed(int letter) {
        if (!isWithin(letter, 0, 255)) {
            return BAD;
        }
        return tape.takes(letter) ? tape.size : FULL;
    }

    public int text() {
        if (texts >= TEXTS_MOST) {
            return FULL;
        }
        int fault = reader.readInto(rules[texts]);
        tape.size = 0;
        if (fault != NONE) {
            return FAULT_FROM - fault;
        }
        texts++;
        return texts - 1;
    }

    public int force(int text) {
        if (!isWithin(text, 0, texts - 1)) {
            return BAD;
        }
        int was = now.rule.number;
        now.rule = rules[text];
        return was;
    }

    // ---- tellings, days

    public int tell(int one, int other) {
        if (!now.areTwo(one, other)) {
            return BAD;
        }
        Person teller = now.people[one];
        Person listener = now.people[other];
        if (teller.asleep || listener.asleep) {
            return STATE;
        }
        now.tellTo(teller, listener, now.asleepCount());
        return listener.tired;
    }

    public int day() {
        if (now.day >= DAY_MOST) {
            return STATE;
        }
        now.passDay();
        return now.asleepBits();
    }

    public int run(int one, int n, int what) {
        if (!now.isThere(one) || !isWithin(n, 0, RUN_MOST) || !isWithin(what, 0, 4)) {
            return BAD;
        }
        thought.become(now);
        thought.passDays(n);
        switch (what) {
            case 0:
                return thought.people[one].tired;
            case 1:
                return thought.people[one].story;
            case 2:
                return thought.asleepBits();
            case 3:
                return thought.tiredTogether();
            default:
                return thought.people[one].heard;
        }
    }

    public int sleeps(int one) {
        if (!now.isThere(one)) {
            return BAD;
        }
        thought.become(now);
        for (int days = 0; days <= LOOK_AHEAD; days++) {
            if (thought.people[one].asleep) {
                return days;
            }
            thought.passDay();
        }
        return NONE;
    }

    public int round() {
        thought.become(now);
        for (int days = 0; days <= LOOK_AHEAD; days++) {
            pastTired[days] = thought.tiredAndAsleep();
            pastStories[days] = thought.stories();
            if (wasBefore(days)) {
                return days;
            }
            thought.passDay();
        }
        return NONE;
    }

    private boolean wasBefore(int days) {
        for (int past = 0; past < days && days <= LOOK_AHEAD; past++) {
            if (pastTired[past] == pastTired[days] && pastStories[past] == pastStories[days]) {
                return true;
            }
        }
        return false;
    }

    // ---- what would be best

    public int ears(int n, int what) {
        if (!isWithin(n, 1, 3) || !isWithin(what, 0, 2)) {
            return BAD;
        }
        int digits = NONE;
        int asleep = 0;
        int tired = 0;
        int ways = waysOfEars();
        for (int way = 0; way < ways; way++) {
            thought.become(now);
            int digitsNow = lendEars(way);
            thought.passDays(n);
            int asleepNow = thought.asleepCount();
            int tiredNow = thought.tiredTogether();
            if (digits == NONE || asleepNow < asleep || asleepNow == asleep && tiredNow < tired) {
                digits = digitsNow;
                asleep = asleepNow;
                tired = tiredNow;
            }
        }
        if (what == 0) {
            return digits;
        }
        return what == 1 ? asleep : tired;
    }

    /** NONE and each other one: as many EARS for each one as there are PEOPLE. */
    private int waysOfEars() {
        int ways = 1;
        for (int i = 0; i < now.size; i++) {
            ways *= now.size;
        }
        return ways;
    }

    /** The EARS of a way are its digits by the number of PEOPLE, that of 0 the highest, so that ways come in their order. */
    private int lendEars(int way) {
        int rest = way;
        int digits = 0;
        int worth = 1;
        int size = thought.size;
        for (int one = size - 1; one >= 0 && size > 0; one--) {
            int choice = rest % size;
            rest /= size;
            int ear = choice <= one ? choice - 1 : choice;
            thought.people[one].ear = ear;
            digits += (ear + 1) * worth;
            worth *= 10;
        }
        return digits;
    }

    public int spread(int one, int what) {
        if (!now.isThere(one) || !isWithin(what, 0, 1)) {
            return BAD;
        }
        int load = now.weighsOf(now.people[one]);
        for (int many = 1; many < now.size; many++) {
            int bits = leastSetOf(many, one, load / many);
            if (bits != NONE) {
                return what == 0 ? bits : many;
            }
        }
        return NONE;
    }

    private int leastSetOf(int many, int one, int part) {
        int bearers = 0;
        for (int other = 0; other < now.size; other++) {
            if (other != one && !now.people[other].asleep && now.tiredBy(now.people[other], part) < TIRED_OUT) {
                bearers |= 1 << other;
            }
        }
        for (int bits = 1; bits < 1 << PEOPLE_MOST; bits++) {
            if (Integer.bitCount(bits) == many && (bits & ~bearers) == 0) {
                return bits;
            }
        }
        return NONE;
    }

    public int aunt(int one, int what) {
        if (!now.isThere(one) || !isWithin(what, 0, 1)) {
            return BAD;
        }
        int load = now.weighsOf(now.people[one]);
        int best = NONE;
        int least = NONE;
        for (int other = 0; other < now.size; other++) {
            if (other == one || now.people[other].asleep) {
                continue;
            }
            int most = mostTiredIfTold(other, load);
            if (best == NONE || most < least) {
                best = other;
                least = most;
            }
        }
        return what == 0 ? best : least;
    }

    private int mostTiredIfTold(int other, int load) {
        int most = 0;
        for (int i = 0; i < now.size; i++) {
            Person person = now.people[i];
            int tired = i == other ? now.tiredBy(person, load) : person.tired;
            most = Math.max(most, tired);
        }
        return most;
    }

    public int bears(int one, int other) {
        if (!now.areTwo(one, other)) {
            return BAD;
        }
        thought.become(now);
        Person teller = thought.people[one];
        for (int story = MOST; story >= 0; story--) {
            teller.story = story;
            int load = thought.weighsOf(teller);
            if (thought.tiredBy(thought.people[other], load) < TIRED_OUT) {
                return story;
            }
        }
        return NONE;
    }

    public long mean(int part) {
        if (!isWithin(part, 0, 1) || now.size == 0) {
            return NO;
        }
        return inLowestTerms(now.tiredTogether(), now.size, part);
    }

    private static long inLowestTerms(int above, int below, int part) {
        int common = commonDivisor(above, below);
        if (common == 0) {
            return NO;
        }
        return part == 0 ? above / common : below / common;
    }

    private static int commonDivisor(int a, int b) {
        int big = a;
        int small = b;
        for (int turn = 0; turn < 100 && small != 0; turn++) {
            int rest = big % small;
            big = small;
            small = rest;
        }
        return big;
    }

    // ---- what was told

    public int tells(int sheet, int one, int by, int what) {
        if (!isSheet(sheet) || !now.isThere(one) || !now.isThere(by) || !isWithin(what, 0, 7)) {
            return BAD;
        }
        Sheet row = sheets[sheet];
        if (row.isMissing()) {
            return NOTHING_THERE;
        }
        if (row.size > TOLD_MOST) {
            return BAD;
        }
        switch (what) {
            case BY_KIND:
                return bitsByWhich(row, one, by, what, KINDS);
            case BY_NUMBER:
                return bitsByWhich(row, one, by, what, NUMBER_MOST + 1);
            case BY_STORY:
            case LEAST_STORY:
                return storiesByWhich(row, one, by, what == LEAST_STORY);
            case BY_EAR:
                return bitsByWhich(row, one, by, what, NO_EAR_BIT + 1);
            case BY_TEXT:
                return bitsByWhich(row, one, by, what, texts);
            case BY_PERSON:
                return peopleOfWhom(row);
            default:
                thought.become(now);
                return firstOtherwise(row, one);
        }
    }

    private int bitsByWhich(Sheet row, int one, int by, int what, int many) {
        int bits = 0;
        for (int v = 0; v < many; v++) {
            if (canSuppose(by, what, v) && firstOtherwise(row, one) == NONE) {
                bits |= 1 << v;
            }
        }
        return bits;
    }

    private int storiesByWhich(Sheet row, int one, int by, boolean wantsLeast) {
        int many = 0;
        for (int story = 0; story <= MOST; story++) {
            if (canSuppose(by, BY_STORY, story) && firstOtherwise(row, one) == NONE) {
                if (wantsLeast) {
                    return story;
                }
                many++;
            }
        }
        return wantsLeast ? NONE : many;
    }

    private int peopleOfWhom(Sheet row) {
        int bits = 0;
        for (int one = 0; one < now.size; one++) {
            thought.become(now);
            if (firstOtherwise(row, one) == NONE) {
                bits |= 1 << one;
            }
        }
        return bits;
    }

    /** The thought becomes as all is now, but for what is supposed of one; false where that can't be. */
    private boolean canSuppose(int by, int what, int v) {
        if (!now.isThere(by)) {
            return false;
        }
        thought.become(now);
        Person person = thought.people[by];
        switch (what) {
            case BY_KIND:
                person.kind = v;
                return true;
            case BY_NUMBER:
                person.number = v;
                return true;
            case BY_STORY:
                person.story = v;
                return true;
            case BY_EAR:
                person.ear = v == NO_EAR_BIT ? NONE : v;
                return v == NO_EAR_BIT || v != by && now.isThere(v);
            case BY_TEXT:
                if (!isWithin(v, 0, texts - 1)) {
                    return false;
                }
                thought.rule = rules[v];
                return true;
            default:
                return false;
        }
    }

    /** The thought goes on from where it stands, a DAY an item. */
    private int firstOtherwise(Sheet row, int one) {
        if (!thought.isThere(one)) {
            return 0;
        }
        Person person = thought.people[one];
        for (int i = 0; i < row.size; i++) {
            thought.passDay();
            if (row.items[i] != person.tired) {
                return i;
            }
        }
        return NONE;
    }

    public int film(int sheet, int one, int n) {
        if (!isSheet(sheet) || !now.isThere(one) || !isWithin(n, 0, TOLD_MOST)) {
            return BAD;
        }
        Sheet row = sheets[sheet];
        row.lay(0, n);
        thought.become(now);
        for (int i = 0; i < n; i++) {
            thought.passDay();
            row.put(i, thought.people[one].tired);
        }
        return n;
    }

    public int drawn(int seed, int n) {
        if (!isWithin(n, 0, RUN_MOST)) {
            return BAD;
        }
        return tiredAsDrawn(seed, n);
    }

    private int tiredAsDrawn(int seed, int n) {
        thought.become(now);
        int last = seed;
        for (int days = 0; days < n; days++) {
            int z = drawNext(last);
            int y = drawNext(z);
            last = y;
            int one = (z >>> 9) % 8;
            int ear = (y >>> 9) % 8;
            if (thought.areTwo(one, ear)) {
                thought.people[one].ear = ear;
            }
            thought.passDay();
        }
        return thought.tiredTogether();
    }

    private static int drawNext(int last) {
        return last * 1103515245 + 12345;
    }

    public long chance(int seed, int m, int k, int part) {
        if (!isWithin(m, 1, 20) || !isWithin(k, 0, 500) || !isWithin(part, 0, 1)) {
            return NO;
        }
        int many = 0;
        for (int i = 0; i < m; i++) {
            if (tiredAsDrawn(seed + i, 10) >= k) {
                many++;
            }
        }
        return inLowestTerms(many, m, part);
    }

    public int image() {
        kept.become(now);
        isKept = true;
        return kept.size;
    }

    public int back() {
        if (!isKept) {
            return STATE;
        }
        now.become(kept);
        return now.size;
    }

    public int count(int what) {
        switch (what) {
            case 0:
                return now.size;
            case 1:
                return now.asleepCount();
            case 2:
                return now.day;
            case 3:
                return texts;
            case 4:
                return tape.size;
            case 5:
                return now.rule.number;
            default:
                return BAD;
        }
    }

    // ---- the host

    public int sheet(int sheet, int sort, int n) {
        if (!isSheet(sheet) || sort != NONE && !isSort(sort)) {
            return BAD;
        }
        if (sort == NONE) {
            sheets[sheet].lay(NONE, 0);
            return 1;
        }
        if (n > SHEET_MOST) {
            return BAD;
        }
        if (n < 0) {
            return BELOW_NOTHING;
        }
        sheets[sheet].lay(sort, n);
        return 1;
    }

    public int cell(int sheet, int i, int v) {
        if (!isSheet(sheet)) {
            return BAD;
        }
        Sheet row = sheets[sheet];
        if (row.isMissing()) {
            return NOTHING_THERE;
        }
        if (!row.has(i)) {
            return OUTSIDE;
        }
        row.put(i, v);
        return 1;
    }

    public int copy(int sheet, int i, int other, int j, int n) {
        if (!isSheet(sheet) || !isSheet(other)) {
            return BAD;
        }
        Sheet from = sheets[sheet];
        Sheet to = sheets[other];
        if (from.isMissing() || to.isMissing()) {
            return NOTHING_THERE;
        }
        if (from.sort != to.sort) {
            return UNLIKE;
        }
        if (!from.hasRoom(i, n) || !to.hasRoom(j, n)) {
            return OUTSIDE;
        }
        System.arraycopy(from.items, i, to.items, j, n);
        return n;
    }

    public int valley(int sheet, int sort, int from, int n) {
        if (!isSheet(sheet) || !isSort(sort) || !isWithin(n, 0, PEOPLE_MOST)) {
            return BAD;
        }
        Sheet row = sheets[sheet];
        if (row.isMissing()) {
            return NOTHING_THERE;
        }
        if (row.sort != sort) {
            return UNLIKE;
        }
        int came = 0;
        for (int pair = 0; pair < n; pair++) {
            if (!row.hasRoom(from, 2 * pair + 2)) {
                return OUTSIDE;
            }
            int at = from + 2 * pair;
            if (comesOne(row.items[at], row.items[at + 1]) >= 0) {
                came++;
            }
        }
        return came;
    }

    public int taken(int one, int k) {
        if (!isWithin(k, 0, KINDS - 1)) {
            return BAD;
        }
        if (!now.isThere(one)) {
            return NOTHING_THERE;
        }
        Person person = now.people[one];
        return isOrIsUnder(person.kind, k) ? person.number : UNLIKE;
    }

    private static boolean isOrIsUnder(int kind, int above) {
        int at = kind;
        for (int step = 0; step < KINDS && isWithin(at, 0, KINDS - 1); step++) {
            if (at == above) {
                return true;
            }
            at = UNDER[at];
        }
        return false;
    }

    private static boolean isSheet(int sheet) {
        return isWithin(sheet, 0, SHEETS - 1);
    }

    private static boolean isSort(int sort) {
        return isWithin(sort, 0, SORTS - 1);
    }

    private static boolean isWithin(int v, int least, int most) {
        return v >= least && v <= most;
    }

    private static int bound(int v, int least, int most) {
        if (v < least) {
            return least;
        }
        return v > most ? most : v;
    }

    /** One of PEOPLE. */
    private static final class Person {
        int kind;
        int number;
        int tired;
        int story;
        int ear = NONE;
        int heard;
        boolean asleep;

        void comeAs(int itsKind, int itsNumber) {
            kind = itsKind;
            number = itsNumber;
            tired = 0;
            story = 0;
            ear = NONE;
            heard = 0;
            asleep = false;
        }

        void become(Person other) {
            kind = other.kind;
            number = other.number;
            tired = other.tired;
            story = other.story;
            ear = other.ear;
            heard = other.heard;
            asleep = other.asleep;
        }

        int attribute(int what) {
            switch (what) {
                case OF_NUMBER:
                    return number;
                case OF_TIRED:
                    return tired;
                case OF_STORY:
                    return story;
                case OF_EAR:
                    return ear;
                case OF_HEARD:
                    return heard;
                case OF_ASLEEP:
                    return asleep ? 1 : 0;
                default:
                    return NO_VALUE;
            }
        }

        void lay(int what, int v) {
            switch (what) {
                case OF_NUMBER:
                    number = v;
                    break;
                case OF_TIRED:
                    tired = v;
                    break;
                case OF_STORY:
                    story = v;
                    break;
                case OF_EAR:
                    ear = v;
                    break;
                case OF_HEARD:
                    heard = v;
                    break;
                case OF_ASLEEP:
                    asleep = v == 1;
                    break;
                default:
                    break;
            }
        }

        /** DOES, the text telling v. */
        int doing(int v) {
            switch (kind) {
                case WIFE:
                    return v / 2;
                case DEAF:
                    return bound(v + number, 0, MOST);
                case AUNT:
                    return tired < 50 ? v / 2 : 0;
                case DOG:
                    return 0;
                default:
                    return v;
            }
        }

        /** WEIGHS of one's STORY, the text telling v. */
        int weighing(int v) {
            switch (kind) {
                case WIFE:
                    return story;
                case DEAF:
                    return bound(2 * (story + v), -MOST, MOST);
                case AUNT:
                    return bound(story - number, 0, MOST);
                case DOG:
                    return 0;
                case LIAR:
                    return -(story / 2);
                default:
                    return bound(story + v, -MOST, MOST);
            }
        }

        /** HEARS a load, the text telling v. */
        int hearing(int load, int v) {
            if (load <= 0) {
                return load;
            }
            int left = load > v ? load - v : 0;
            switch (kind) {
                case WIFE:
                    return bound(left + number, -MOST, MOST);
                case DEAF:
                    return 0;
                case AUNT:
                    return bound((story == 0 ? 2 : 1) * (left + number), -MOST, MOST);
                case DOG:
                    return load / 2;
                default:
                    return left;
            }
        }
    }

    /** PEOPLE, DAY and THE RULE as they are, or as they would be, or as they were kept. */
    private static final class Valley {
        final Person[] people = new Person[PEOPLE_MOST];
        int size;
        int day;
        Rule rule;

        Valley(Rule itsRule) {
            rule = itsRule;
            for (int i = 0; i < PEOPLE_MOST; i++) {
                people[i] = new Person();
            }
        }

        void become(Valley other) {
            size = other.size;
            day = other.day;
            rule = other.rule;
            for (int i = 0; i < size; i++) {
                people[i].become(other.people[i]);
            }
        }

        boolean isThere(int one) {
            return one >= 0 && one < size;
        }

        boolean areTwo(int one, int other) {
            return one != other && isThere(one) && isThere(other);
        }

        int asleepCount() {
            return Integer.bitCount(asleepBits());
        }

        int asleepBits() {
            int bits = 0;
            for (int i = 0; i < size; i++) {
                if (people[i].asleep) {
                    bits |= 1 << i;
                }
            }
            return bits;
        }

        int tiredTogether() {
            int together = 0;
            for (int i = 0; i < size; i++) {
                together += people[i].tired;
            }
            return together;
        }

        /** Seven bits for each one's TIRED and one for ASLEEP: one number that is like only where all are like. */
        long tiredAndAsleep() {
            long all = 0;
            for (int i = 0; i < size; i++) {
                all = all << 8 | people[i].tired << 1 | (people[i].asleep ? 1 : 0);
            }
            return all;
        }

        long stories() {
            long all = 0;
            for (int i = 0; i < size; i++) {
                all = all << 8 | people[i].story;
            }
            return all;
        }

        int doesOf(Person one) {
            return one.doing(rule.value(DOES, one, day, asleepCount()));
        }

        int weighsOf(Person one) {
            return one.weighing(rule.value(WEIGHS, one, day, asleepCount()));
        }

        int hearsOf(Person one, int load) {
            return one.hearing(load, rule.value(SPARES, one, day, asleepCount()));
        }

        /** How TIRED one would be by hearing a load. */
        int tiredBy(Person one, int load) {
            return bound(one.tired + hearsOf(one, load), 0, MOST);
        }

        void tellTo(Person teller, Person listener, int asleep) {
            int load = teller.weighing(rule.value(WEIGHS, teller, day, asleep));
            int more = listener.hearing(load, rule.value(SPARES, listener, day, asleep));
            listener.tired = bound(listener.tired + more, 0, MOST);
            listener.heard = bound(listener.heard + 1, 0, MOST);
            teller.story = 0;
        }

        /** Nobody falls asleep or wakes before the DAY's end, so how many are ASLEEP is counted once. */
        void passDay() {
            int asleep = asleepCount();
            for (int i = 0; i < size; i++) {
                Person one = people[i];
                if (one.asleep) {
                    one.tired = bound(one.tired - 20, 0, MOST);
                    continue;
                }
                int more = one.doing(rule.value(DOES, one, day, asleep));
                one.story = bound(one.story + more, 0, MOST);
                if (isThere(one.ear) && !people[one.ear].asleep) {
                    tellTo(one, people[one.ear], asleep);
                }
            }
            sleepOrWake();
            day++;
        }

        private void sleepOrWake() {
            for (int i = 0; i < size; i++) {
                Person one = people[i];
                if (one.tired >= TIRED_OUT) {
                    one.asleep = true;
                } else if (one.tired < RESTED) {
                    one.asleep = false;
                }
            }
        }

        void passDays(int n) {
            for (int i = 0; i < n; i++) {
                passDay();
            }
        }
    }

    /** A TEXT as it was read: of each part, what its value is made of, operands ahead of what joins them. */
    private static final class Rule {
        static final int TIRED_NAME = -1, STORY_NAME = -2, NUMBER_NAME = -3;
        static final int DAY_NAME = -4, ASLEEP_NAME = -5, HEARD_NAME = -6;
        static final int NEGATE = -10, NOT = -11;
        static final int ADD = -20, SUBTRACT = -21, MULTIPLY = -22;
        static final int IS_LESS = -23, IS_LIKE = -24, AND = -25, OR = -26;

        final int number;
        private final int[] steps = new int[TAPE_MOST];
        private int size;
        /** Where each part begins, and behind the last where it ends. */
        private final int[] starts = new int[PARTS + 1];
        /** 5 operands wait at most in each of 6 levels of brackets. */
        private final int[] operands = new int[48];

        Rule(int itsNumber) {
            number = itsNumber;
        }

        void beEmpty() {
            size = 0;
            Arrays.fill(starts, 0);
        }

        void add(int step) {
            if (size < steps.length) {
                steps[size] = step;
                size++;
            }
        }

        void endPart(int part) {
            if (part >= 0 && part < PARTS) {
                starts[part + 1] = size;
            }
        }

        /** What a part tells of one of PEOPLE. */
        int value(int part, Person one, int day, int asleep) {
            if (part < 0 || part >= PARTS) {
                return 0;
            }
            int end = starts[part + 1];
            int top = -1;
            for (int i = starts[part]; i < end; i++) {
                int step = steps[i];
                if (step > NEGATE) {
                    top++;
                    if (top >= operands.length) {
                        return 0;
                    }
                    operands[top] = step >= 0 ? step : named(step, one, day, asleep);
                } else if (step >= NOT) {
                    if (top < 0) {
                        return 0;
                    }
                    operands[top] = step == NEGATE ? -operands[top] : oneIf(operands[top] == 0);
                } else {
                    top--;
                    if (top < 0) {
                        return 0;
                    }
                    operands[top] = joined(step, operands[top], operands[top + 1]);
                }
            }
            return top < 0 ? 0 : bound(operands[top], 0, MOST);
        }

        private static int named(int name, Person one, int day, int asleep) {
            switch (name) {
                case TIRED_NAME:
                    return one.tired;
                case STORY_NAME:
                    return one.story;
                case NUMBER_NAME:
                    return one.number;
                case DAY_NAME:
                    return day;
                case ASLEEP_NAME:
                    return asleep;
                default:
                    return one.heard;
            }
        }

        private static int joined(int step, int a, int b) {
            switch (step) {
                case ADD:
                    return a + b;
                case SUBTRACT:
                    return a - b;
                case MULTIPLY:
                    return a * b;
                case IS_LESS:
                    return a < b ? 1 : 0;
                case IS_LIKE:
                    return a == b ? 1 : 0;
                case AND:
                    return a != 0 && b != 0 ? 1 : 0;
                default:
                    return a != 0 || b != 0 ? 1 : 0;
            }
        }

        private static int oneIf(boolean is) {
            return is ? 1 : 0;
        }
    }

    /** THE TAPE, and the TOKENS on it. */
    private static final class Tape {
        private static final String FIRST_TEXT = "does 10 ; weighs 0 ; spares number ;";
        private static final String SIGNS = "();+-*<=";
        /** What a TOKEN is: one of these, a sign as its letter, or a KEY as WORD and its place among the words. */
        static final int END = 0, BROKEN = 1, AMOUNT = 2, NAME = 3, WORD = 1000;
        private static final int NAMES = 6, WORDS = 12;
        static final int DOES_KEY = WORD + 6, WEIGHS_KEY = WORD + 7, SPARES_KEY = WORD + 8;
        static final int OR_KEY = WORD + 9, AND_KEY = WORD + 10, NOT_KEY = WORD + 11;
        private static final int DIGITS_MOST = 4;

        private final int[] letters = new int[TAPE_MOST];
        int size;
        /** A row's item for each TOKEN: what it is, its first byte's place, the NUMBER or Rule's step for the NAME. */
        private final int[] tokens = new int[TAPE_MOST + 1];
        private final int[] places = new int[TAPE_MOST + 1];
        private final int[] amounts = new int[TAPE_MOST + 1];
        private int many;

        boolean takes(int letter) {
            if (size >= letters.length) {
                return false;
            }
            letters[size] = letter;
            size++;
            return true;
        }

        void layFirstText() {
            for (int i = 0; i < FIRST_TEXT.length(); i++) {
                takes(FIRST_TEXT.charAt(i));
            }
        }

        int token(int i) {
            return i >= 0 && i < many ? tokens[i] : END;
        }

        int place(int i) {
            return i >= 0 && i < many ? places[i] : size;
        }

        int amount(int i) {
            return i >= 0 && i < many ? amounts[i] : 0;
        }

        void findTokens() {
            many = 0;
            int at = behindBlanks(0);
            for (int turn = 0; turn < TAPE_MOST && at < size; turn++) {
                at = behindBlanks(behindToken(at));
            }
        }

        private int behindBlanks(int from) {
            int at = from;
            while (at < size && isBlank(letters[at])) {
                at++;
            }
            return at;
        }

        private int behindToken(int from) {
            if (from < 0 || from >= size) {
                return size;
            }
            int letter = letters[from];
            if (isLetter(letter)) {
                return behindWord(from);
            }
            if (isDigit(letter)) {
                return behindAmount(from);
            }
            addToken(SIGNS.indexOf((char) letter) >= 0 ? letter : BROKEN, from, 0);
            return from + 1;
        }

        private int behindWord(int from) {
            int at = from;
            while (at < size && isLetter(letters[at])) {
                at++;
            }
            int token = BROKEN;
            int amount = 0;
            for (int i = 0; i < WORDS; i++) {
                if (spells(from, at, wordOf(i))) {
                    token = i < NAMES ? NAME : WORD + i;
                    amount = Rule.TIRED_NAME - i;
                }
            }
            addToken(token, from, amount);
            return at;
        }

        private int behindAmount(int from) {
            int at = from;
            int amount = 0;
            while (at < size && isDigit(letters[at])) {
                amount = amount * 10 + letters[at] - '0';
                at++;
            }
            addToken(at - from > DIGITS_MOST ? BROKEN : AMOUNT, from, amount);
            return at;
        }

        private void addToken(int token, int place, int amount) {
            if (many < tokens.length) {
                tokens[many] = token;
                places[many] = place;
                amounts[many] = amount;
                many++;
            }
        }

        private boolean spells(int from, int behind, String word) {
            int length = word.length();
            if (from < 0 || behind > size || behind - from != length) {
                return false;
            }
            for (int i = 0; i < length; i++) {
                if (letters[from + i] != word.charAt(i)) {
                    return false;
                }
            }
            return true;
        }

        /** NAMES first, in the order of Rule's names, then KEYS in the order of their tokens. */
        private static String wordOf(int i) {
            switch (i) {
                case 0:
                    return "tired";
                case 1:
                    return "story";
                case 2:
                    return "number";
                case 3:
                    return "day";
                case 4:
                    return "asleep";
                case 5:
                    return "heard";
                case 6:
                    return "does";
                case 7:
                    return "weighs";
                case 8:
                    return "spares";
                case 9:
                    return "or";
                case 10:
                    return "and";
                default:
                    return "not";
            }
        }

        private static boolean isBlank(int letter) {
            return letter == 32 || letter == 10;
        }

        private static boolean isLetter(int letter) {
            return letter >= 'a' && letter <= 'z';
        }

        private static boolean isDigit(int letter) {
            return letter >= '0' && letter <= '9';
        }
    }

    /** How a TEXT is read from THE TAPE: a method a line of the grammar; reading stops at the TOKEN that is the FAULT. */
    private static final class Reader {
        private static final int OPEN_MOST = 5;

        private final Tape tape;
        private Rule rule;
        private int at;
        private int token;

        Reader(Tape itsTape) {
            tape = itsTape;
        }

        /** The place of the FAULT, or NONE: then the rule is what was read. */
        int readInto(Rule readInto) {
            if (readInto == null) {
                return 0;
            }
            rule = readInto;
            rule.beEmpty();
            tape.findTokens();
            lookAt(0);
            boolean isText = readPart(Tape.DOES_KEY, DOES) && readPart(Tape.WEIGHS_KEY, WEIGHS)
                    && readPart(Tape.SPARES_KEY, SPARES) && token == Tape.END;
            return isText ? NONE : tape.place(at);
        }

        private void lookAt(int i) {
            at = i;
            token = tape.token(i);
        }

        private boolean passes(int wanted) {
            if (token != wanted) {
                return false;
            }
            lookAt(at + 1);
            return true;
        }

        private boolean readPart(int key, int part) {
            if (!passes(key) || !readEither(0) || !passes(';')) {
                return false;
            }
            rule.endPart(part);
            return true;
        }

        private boolean readEither(int open) {
            if (!readBoth(open)) {
                return false;
            }
            for (int turn = 0; turn < TAPE_MOST && passes(Tape.OR_KEY); turn++) {
                if (!readBoth(open)) {
                    return false;
                }
                rule.add(Rule.OR);
            }
            return true;
        }

        private boolean readBoth(int open) {
            if (!readNot(open)) {
                return false;
            }
            for (int turn = 0; turn < TAPE_MOST && passes(Tape.AND_KEY); turn++) {
                if (!readNot(open)) {
                    return false;
                }
                rule.add(Rule.AND);
            }
            return true;
        }

        private boolean readNot(int open) {
            if (token != Tape.NOT_KEY) {
                return readComparison(open);
            }
            if (open >= OPEN_MOST) {
                return false;
            }
            lookAt(at + 1);
            if (!readNot(open + 1)) {
                return false;
            }
            rule.add(Rule.NOT);
            return true;
        }

        private boolean readComparison(int open) {
            if (!readSum(open)) {
                return false;
            }
            if (token != '<' && token != '=') {
                return true;
            }
            int step = token == '<' ? Rule.IS_LESS : Rule.IS_LIKE;
            lookAt(at + 1);
            if (!readSum(open)) {
                return false;
            }
            rule.add(step);
            return true;
        }

        private boolean readSum(int open) {
            if (!readTerm(open)) {
                return false;
            }
            for (int turn = 0; turn < TAPE_MOST && (token == '+' || token == '-'); turn++) {
                int step = token == '+' ? Rule.ADD : Rule.SUBTRACT;
                lookAt(at + 1);
                if (!readTerm(open)) {
                    return false;
                }
                rule.add(step);
            }
            return true;
        }

        private boolean readTerm(int open) {
            if (!readOne(open)) {
                return false;
            }
            for (int turn = 0; turn < TAPE_MOST && passes('*'); turn++) {
                if (!readOne(open)) {
                    return false;
                }
                rule.add(Rule.MULTIPLY);
            }
            return true;
        }

        private boolean readOne(int open) {
            if (token == Tape.AMOUNT || token == Tape.NAME) {
                rule.add(tape.amount(at));
                lookAt(at + 1);
                return true;
            }
            if (token != '(' && token != '-' || open >= OPEN_MOST) {
                return false;
            }
            boolean isBracket = token == '(';
            lookAt(at + 1);
            if (isBracket) {
                return readEither(open + 1) && passes(')');
            }
            if (!readOne(open + 1)) {
                return false;
            }
            rule.add(Rule.NEGATE);
            return true;
        }
    }

    /** A row of numbers of a sort, or missing. */
    private static final class Sheet {
        final int[] items = new int[SHEET_MOST];
        int sort = NONE;
        int size;

        boolean isMissing() {
            return sort == NONE;
        }

        void lay(int itsSort, int itsSize) {
            sort = itsSort;
            size = bound(itsSize, 0, SHEET_MOST);
            Arrays.fill(items, 0);
        }

        boolean has(int i) {
            return i >= 0 && i < size;
        }

        boolean hasRoom(int from, int many) {
            return from >= 0 && many >= 0 && from <= size && many <= size - from;
        }

        void put(int i, int v) {
            if (!has(i)) {
                return;
            }
            if (sort == 0) {
                items[i] = (byte) v;
            } else {
                items[i] = sort == 1 ? (short) v : v;
            }
        }
    }
}
