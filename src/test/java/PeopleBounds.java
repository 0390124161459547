/** Sentences of 'What it is', of the first part of 'Terms' and of promises 1 to 5 that name a boundary. */
final class PeopleBounds extends Sentences {
    private PeopleBounds() {
    }

    static void all() {
        use();
        attributes();
        refusals();
        does();
        weighs();
        hears();
        newObject();
        set();
        person();
        told();
        hearing();
    }

    private static void use() {
        in("What it is");
        sentence("An object is used for at most 512 calls after it has been made", () -> {
            ListenerIsTired x = new ListenerIsTired();
            due(x, 0, "person", TELLER, 0);
            for (int call = 2; call <= 511; call++) {
                due(x, 0, "day");
            }
            due(x, 510, "count", 2);
        });
    }

    /** The least and the greatest are taken, of whoever; what is below and above is not, and changes nothing. */
    private static void ranged(int what, int least, int most) {
        ListenerIsTired x = with(TELLER, 3, WIFE, 4);
        for (int one = 0; one < 2; one++) {
            call(x, "set", what, one, most);
            due(x, most, "told", one, what);
            due(x, most, "set", what, one, least);
            due(x, least, "told", one, what);
            due(x, least, "set", what, one, most);
            due(x, most, "told", one, what);
        }
        for (int v : new int[] {least - 1, most + 1, MIN, MAX}) {
            refused(Valleys::some, NO_VALUE, "set", what, 0, v);
        }
    }

    /** As one comes, the first and the fifth one, and one who comes for one who is gone. */
    private static void asOneComes(int what, int want) {
        ListenerIsTired x = with(TELLER, 3, WIFE, 4, AUNT, 5);
        x.image();
        x.person(DOG, 6);
        x.person(LIAR, 7);
        for (int one = 0; one < 5; one++) {
            due(x, want, "told", one, what);
        }
        x.set(what, 3, 1);
        x.back();
        due(x, 3, "person", DEAF, 8);
        due(x, want, "told", 3, what);
    }

    private static void attributes() {
        in("Terms 1");
        sentence("DAY (0 .. 999; 0 at first).", () -> {
            due(new ListenerIsTired(), 0, "told", 0, DAY);
            due(new ListenerIsTired(), 0, "count", 2);
            ranged(DAY, 0, 999);
            ListenerIsTired x = with(DOG, 0);
            x.set(DAY, 0, 998);
            due(x, 0, "day");
            due(x, 999, "count", 2);
            due(x, STATE, "day");
            due(x, 999, "count", 2);
        });
        sentence("PEOPLE (5 at most, numbered from 0)", () -> {
            ListenerIsTired x = new ListenerIsTired();
            for (int one = 0; one < 5; one++) {
                due(x, NO_VALUE, "told", one, NUMBER);
                due(x, one, "person", TELLER, 9 - one);
                due(x, 9 - one, "told", one, NUMBER);
            }
            due(x, NO_VALUE, "told", 5, NUMBER);
            due(x, NO_VALUE, "told", -1, NUMBER);
            refused(Valleys::fullOfPeople, FULL, "person", TELLER, 0);
        });
        sentence("have a KIND: 0 TELLER, 1 WIFE under TELLER, 2 DEAF under TELLER, 3 AUNT under WIFE, 4 DOG under DEAF, "
                + "5 LIAR under TELLER;", () -> {
            int[] above = {-1, TELLER, TELLER, WIFE, DEAF, TELLER};
            for (int kind = 0; kind <= 5; kind++) {
                due(with(kind, 0), kind, "told", 0, KIND);
                for (int other = 0; other <= 5; other++) {
                    boolean isUnder = kind == other || above[kind] == other || other == TELLER;
                    due(with(kind, 7), isUnder ? 7 : UNLIKE, "taken", 0, other);
                }
            }
            for (int kind : new int[] {-1, 6, MIN, MAX}) {
                refused(Valleys::some, BAD, "person", kind, 0);
            }
        });
        sentence("a NUMBER (0 .. 9)", () -> {
            ranged(NUMBER, 0, 9);
            due(with(DOG, 0), 0, "told", 0, NUMBER);
            due(with(DOG, 9), 9, "told", 0, NUMBER);
            for (int number : new int[] {-1, 10, MIN, MAX}) {
                refused(Valleys::some, BAD, "person", TELLER, number);
            }
        });
        sentence("are TIRED (0 .. 99; 0 as one comes)", () -> {
            ranged(TIRED, 0, 99);
            asOneComes(TIRED, 0);
        });
        sentence("have a STORY (0 .. 99; 0)", () -> {
            ranged(STORY, 0, 99);
            asOneComes(STORY, 0);
        });
        sentence("an EAR: another one whom one tells it, or NONE (as one comes)", () -> {
            asOneComes(EAR, NONE);
            ListenerIsTired x = with(TELLER, 0, WIFE, 0, DEAF, 0);
            due(x, NONE, "set", EAR, 0, 1);
            due(x, 1, "set", EAR, 0, 2);
            due(x, NO_VALUE, "set", EAR, 0, 3);
            due(x, 2, "set", EAR, 0, NONE);
            due(x, NONE, "told", 0, EAR);
            due(x, NONE, "set", EAR, 2, 0);
            due(x, 0, "told", 2, EAR);
            x.person(DOG, 0);
            due(x, NONE, "set", EAR, 0, 3);
            for (int ear : new int[] {-2, 0, 4, 5, MIN, MAX}) {
                refused(Valleys::some, NO_VALUE, "set", EAR, 0, ear);
            }
            refused(Valleys::some, NO_VALUE, "set", EAR, 3, 3);
            refused(Valleys::fullOfPeople, NO_VALUE, "set", EAR, 0, 5);
            due(Valleys.fullOfPeople(), NONE, "set", EAR, 0, 4);
        });
        sentence("HEARD so many (0 .. 99; 0)", () -> {
            ranged(HEARD, 0, 99);
            asOneComes(HEARD, 0);
        });
        sentence("are ASLEEP or not (not, as one comes)", () -> {
            ranged(ASLEEP, 0, 1);
            asOneComes(ASLEEP, 0);
        });
        sentence("NONE is -1; NO, where a long is answered, -4611686018427387904.", () -> {
            same("NONE", -1, ListenerIsTired.NONE);
            same("NO", -4611686018427387904L, ListenerIsTired.NO);
            due(with(TELLER, 0), -1, "told", 0, EAR);
            due(with(TELLER, 0), -1, "sleeps", 0);
            due(new ListenerIsTired(), -4611686018427387904L, "mean", 0);
        });
        sentence("Quotients are cut toward 0.", () -> {
            same("half of 1", 0, doesOf(WIFE, 0, 0, 1));
            same("half of 3", 1, doesOf(AUNT, 0, 0, 3));
            same("0 less half of 1", 0, weighsOf(LIAR, 0, 1, 0));
            same("0 less half of 3", -1, weighsOf(LIAR, 0, 3, 0));
            same("half of 1", 0, hearsOf(DOG, 0, 0, 0, 1));
            same("half of 3", 1, hearsOf(DOG, 0, 0, 0, 3));
            ListenerIsTired x = laid(laid(with(TELLER, 0, TELLER, 0, TELLER, 0), STORY, 61), TIRED, 0, 49, 49);
            due(x, 6, "spread", 0, 0);
        });
    }

    private static void refusals() {
        sentence("Refusals, the first that the call's words name; they change nothing:", () -> {
            refused(Valleys::fullOfPeople, BAD, "person", 6, 0);
            refused(Valleys::fullOfPeople, BAD, "person", 0, 10);
            refused(Valleys::fullTape, BAD, "feed", 256);
            refused(Valleys::fullOfTexts, FULL, "text");
            refused(Valleys::some, BAD, "tell", 2, 2);
            refused(Valleys::some, BAD, "tell", 2, 4);
            refused(Valleys::some, BAD, "tell", -1, 2);
            refused(Valleys::some, BAD, "tells", 3, 4, 0, 0);
            refused(Valleys::some, BAD, "tells", 3, 0, 4, 0);
            refused(Valleys::some, BAD, "tells", 3, 0, 0, 8);
            refused(Valleys::some, NOTHING, "tells", 3, 0, 0, 0);
            refused(Valleys::some, BAD, "sheet", 4, 0, -1);
            refused(Valleys::some, BAD, "sheet", 0, 3, -1);
            refused(Valleys::some, BAD, "cell", 4, -1, 0);
            refused(Valleys::some, NOTHING, "cell", 3, -1, 0);
            refused(Valleys::some, BAD, "copy", 4, 0, 3, 0, -1);
            refused(Valleys::some, BAD, "copy", 3, 0, 4, 0, -1);
            refused(Valleys::some, NOTHING, "copy", 3, 0, 0, 0, -1);
            refused(Valleys::some, NOTHING, "copy", 0, 0, 3, 0, -1);
            refused(Valleys::some, UNLIKE, "copy", 0, 0, 1, 0, -1);
            refused(Valleys::some, OUTSIDE, "copy", 0, 0, 0, 0, -1);
            refused(Valleys::some, BAD, "valley", 3, 3, -1, 1);
            refused(Valleys::some, BAD, "valley", 3, 0, -1, 6);
            refused(Valleys::some, NOTHING, "valley", 3, 0, -1, 1);
            refused(Valleys::some, UNLIKE, "valley", 0, 0, -1, 1);
            refused(Valleys::some, BAD, "taken", 4, 6);
            refused(Valleys::some, NOTHING, "taken", 4, 0);
        });
        sentence("BAD (-2: a number is none such or not as told), STATE (-3), FULL (-4);", () -> {
            same("BAD", -2, ListenerIsTired.BAD);
            same("STATE", -3, ListenerIsTired.STATE);
            same("FULL", -4, ListenerIsTired.FULL);
            refused(Valleys::some, -2, "force", 3);
            refused(Valleys::some, -3, "tell", 0, 2);
            refused(Valleys::fullTape, -4, "feed", 32);
        });
        sentence("the host's: -11 nothing where something is asked, -12 a place outside, -13 a thing of another sort or KIND, "
                + "-14 a size below 0.", () -> {
            refused(Valleys::some, -11, "cell", 3, 0, 0);
            refused(Valleys::some, -11, "taken", 4, 0);
            refused(Valleys::some, -12, "cell", 0, 6, 0);
            refused(Valleys::some, -13, "copy", 0, 0, 1, 0, 1);
            refused(Valleys::some, -13, "taken", 0, WIFE);
            refused(Valleys::some, -14, "sheet", 0, 0, -1);
        });
    }

    private static int doesOf(int kind, int number, int tired, int v) {
        ListenerIsTired x = laid(with(kind, number), TIRED, tired);
        return ruled(x, String.valueOf(v), "0", "0").told(0, DOES);
    }

    private static int weighsOf(int kind, int number, int story, int v) {
        ListenerIsTired x = laid(with(kind, number), STORY, story);
        return ruled(x, "0", String.valueOf(v), "0").told(0, WEIGHS) - 1000;
    }

    private static int hearsOf(int kind, int number, int story, int v, int load) {
        ListenerIsTired x = laid(with(kind, number), STORY, story);
        return ruled(x, "0", "0", String.valueOf(v)).hears(0, load) - 1000;
    }

    private static void does() {
        sentence("DOES (so much in a DAY, does telling v): TELLER: v;", () -> {
            for (int v : new int[] {0, 1, 98, 99}) {
                same("a TELLER DOES", v, doesOf(TELLER, 9, 99, v));
            }
            due(ruled(with(TELLER, 0), "99", "0", "0"), 99, "run", 0, 1, 1);
        });
        sentence("WIFE: half (cut) of a TELLER's;", () -> {
            int[][] halves = {{0, 0}, {1, 0}, {2, 1}, {3, 1}, {98, 49}, {99, 49}};
            for (int[] half : halves) {
                same("a WIFE DOES of " + half[0], half[1], doesOf(WIFE, 9, 99, half[0]));
            }
        });
        sentence("DEAF: NUMBER more than a TELLER;", () -> {
            same("DEAF 0, 0", 0, doesOf(DEAF, 0, 99, 0));
            same("DEAF 9, 0", 9, doesOf(DEAF, 9, 99, 0));
            same("DEAF 0, 99", 99, doesOf(DEAF, 0, 99, 99));
            same("DEAF 9, 89", 98, doesOf(DEAF, 9, 99, 89));
            same("DEAF 9, 90", 99, doesOf(DEAF, 9, 99, 90));
        });
        sentence("AUNT: as a WIFE, if she is TIRED below 50, else 0;", () -> {
            int[][] tired = {{0, 10}, {1, 10}, {49, 10}, {50, 0}, {51, 0}, {99, 0}};
            for (int[] t : tired) {
                same("an AUNT, TIRED " + t[0], t[1], doesOf(AUNT, 9, t[0], 21));
            }
        });
        sentence("DOG: 0; LIAR: as a TELLER.", () -> {
            same("a DOG DOES", 0, doesOf(DOG, 9, 0, 99));
            same("a LIAR DOES nothing", 0, doesOf(LIAR, 9, 99, 0));
            same("a LIAR DOES much", 99, doesOf(LIAR, 9, 99, 99));
        });
    }

    private static void weighs() {
        sentence("WEIGHS (a STORY of w, weighs telling v): TELLER: w and v;", () -> {
            same("0 and 0", 0, weighsOf(TELLER, 9, 0, 0));
            same("0 and 99", 99, weighsOf(TELLER, 9, 0, 99));
            same("99 and 0", 99, weighsOf(TELLER, 9, 99, 0));
            same("49 and 49", 98, weighsOf(TELLER, 9, 49, 49));
        });
        sentence("WIFE: w;", () -> {
            for (int w : new int[] {0, 1, 99}) {
                same("a WIFE's STORY", w, weighsOf(WIFE, 9, w, 99));
            }
        });
        sentence("DEAF: twice a TELLER's;", () -> {
            same("twice 0", 0, weighsOf(DEAF, 9, 0, 0));
            same("twice 1", 2, weighsOf(DEAF, 9, 0, 1));
            same("twice 49", 98, weighsOf(DEAF, 9, 48, 1));
        });
        sentence("AUNT: NUMBER less than a WIFE, 0 at least;", () -> {
            int[][] stories = {{0, 0}, {3, 0}, {4, 0}, {5, 1}, {99, 95}};
            for (int[] story : stories) {
                same("an AUNT's STORY of " + story[0], story[1], weighsOf(AUNT, 4, story[0], 99));
            }
            same("NUMBER 0", 99, weighsOf(AUNT, 0, 99, 0));
            same("NUMBER 9", 0, weighsOf(AUNT, 9, 9, 0));
        });
        sentence("DOG: 0; LIAR: 0 less half (cut) of w.", () -> {
            same("a DOG's", 0, weighsOf(DOG, 9, 99, 99));
            int[][] stories = {{0, 0}, {1, 0}, {2, -1}, {3, -1}, {98, -49}, {99, -49}};
            for (int[] story : stories) {
                same("a LIAR's STORY of " + story[0], story[1], weighsOf(LIAR, 9, story[0], 99));
            }
        });
    }

    private static void hears() {
        sentence("HEARS (a load l, spares telling v): l, if it is 0 or less, of all KINDS;", () -> {
            for (int kind = 0; kind <= 5; kind++) {
                for (int load : new int[] {0, -1, -50, -99}) {
                    same("KIND " + kind + " HEARS", load, hearsOf(kind, 9, 0, 7, load));
                }
            }
            int[] one = {1, 10, 0, 20, 0, 1};
            for (int kind = 0; kind <= 5; kind++) {
                same("KIND " + kind + " HEARS 1", one[kind], hearsOf(kind, 9, 0, 0, 1));
            }
        });
        sentence("else TELLER: l less v, 0 at least;", () -> {
            same("1 more than is spared", 1, hearsOf(TELLER, 9, 0, 20, 21));
            same("as much as is spared", 0, hearsOf(TELLER, 9, 0, 20, 20));
            same("1 less than is spared", 0, hearsOf(TELLER, 9, 0, 20, 19));
            same("1 of 99", 0, hearsOf(TELLER, 9, 0, 99, 1));
            same("99 of 0", 99, hearsOf(TELLER, 9, 0, 0, 99));
        });
        sentence("WIFE: NUMBER more than a TELLER;", () -> {
            same("nothing is left", 9, hearsOf(WIFE, 9, 0, 20, 19));
            same("1 is left", 10, hearsOf(WIFE, 9, 0, 20, 21));
            same("NUMBER 0", 0, hearsOf(WIFE, 0, 0, 20, 20));
            same("89 and 9", 98, hearsOf(WIFE, 9, 0, 10, 99));
        });
        sentence("DEAF: 0;", () -> {
            same("1", 0, hearsOf(DEAF, 9, 0, 0, 1));
            same("99", 0, hearsOf(DEAF, 9, 0, 0, 99));
        });
        sentence("AUNT: twice a WIFE's, if her own STORY is 0, else as a WIFE;", () -> {
            int[][] stories = {{0, 42}, {1, 21}, {99, 21}};
            for (int[] story : stories) {
                same("an AUNT with a STORY of " + story[0], story[1], hearsOf(AUNT, 4, story[0], 3, 20));
            }
            same("nothing is left, NUMBER 0", 0, hearsOf(AUNT, 0, 0, 99, 99));
            same("nothing is left, NUMBER 4", 8, hearsOf(AUNT, 4, 0, 99, 99));
        });
        sentence("DOG: half (cut) of l; LIAR: as a TELLER.", () -> {
            int[][] halves = {{1, 0}, {2, 1}, {3, 1}, {98, 49}, {99, 49}};
            for (int[] half : halves) {
                same("a DOG HEARS " + half[0], half[1], hearsOf(DOG, 9, 0, 99, half[0]));
            }
            same("a LIAR, 1 more than is spared", 1, hearsOf(LIAR, 9, 0, 20, 21));
            same("a LIAR, as much as is spared", 0, hearsOf(LIAR, 9, 0, 20, 20));
            same("a LIAR, 1 less than is spared", 0, hearsOf(LIAR, 9, 0, 20, 19));
        });
        sentence("(DOES, WEIGHS, HEARS -99 .. 99, else the bound; DOES 0 at least.)", () -> {
            same("90 and 9", 99, doesOf(DEAF, 9, 0, 90));
            same("91 and 9", 99, doesOf(DEAF, 9, 0, 91));
            same("99 and 9", 99, doesOf(DEAF, 9, 0, 99));
            same("98 and 1", 99, weighsOf(TELLER, 0, 98, 1));
            same("99 and 1", 99, weighsOf(TELLER, 0, 99, 1));
            same("99 and 99", 99, weighsOf(TELLER, 0, 99, 99));
            same("twice 50", 99, weighsOf(DEAF, 0, 49, 1));
            same("twice 198", 99, weighsOf(DEAF, 0, 99, 99));
            same("the least that is weighed", -49, weighsOf(LIAR, 0, 99, 0));
            same("90 and 9", 99, hearsOf(WIFE, 9, 0, 0, 90));
            same("91 and 9", 99, hearsOf(WIFE, 9, 0, 0, 91));
            same("99 and 9", 99, hearsOf(AUNT, 9, 1, 0, 99));
            same("twice 49", 98, hearsOf(AUNT, 0, 0, 0, 49));
            same("twice 50", 99, hearsOf(AUNT, 0, 0, 0, 50));
            same("twice 108", 99, hearsOf(AUNT, 9, 0, 0, 99));
            same("-99", -99, hearsOf(TELLER, 0, 0, 0, -99));
            for (int kind = 0; kind <= 5; kind++) {
                due(ruled(with(kind, 0), "-1", "0", "0"), 0, "told", 0, DOES);
            }
        });
    }

    private static void newObject() {
        in("Promise 1");
        sentence("Nobody in the valley.", () -> {
            int[] counts = {0, 0, 0, 1, 0, 0};
            for (int what = 0; what < counts.length; what++) {
                due(new ListenerIsTired(), counts[what], "count", what);
            }
            for (int what = 1; what <= 9; what++) {
                due(new ListenerIsTired(), NO_VALUE, "told", 0, what);
            }
            for (int what = 1; what <= 6; what++) {
                refused(Valleys::nobody, NO_VALUE, "set", what, 0, 0);
            }
            refused(Valleys::nobody, BAD, "hears", 0, 0);
            refused(Valleys::nobody, BAD, "tell", 0, 1);
            refused(Valleys::nobody, BAD, "run", 0, 0, 3);
            refused(Valleys::nobody, BAD, "sleeps", 0);
            refused(Valleys::nobody, BAD, "spread", 0, 0);
            refused(Valleys::nobody, BAD, "aunt", 0, 0);
            refused(Valleys::nobody, BAD, "bears", 0, 1);
            refused(Valleys::nobody, NO, "mean", 0);
            refused(Valleys::nobody, BAD, "tells", 0, 0, 0, 7);
            refused(Valleys::nobody, BAD, "film", 0, 0, 0);
            refused(Valleys::nobody, STATE, "back");
            refused(Valleys::nobody, NOTHING, "taken", 0, 0);
            due(new ListenerIsTired(), 0, "day");
            due(new ListenerIsTired(), 1, "round");
            due(new ListenerIsTired(), 0, "ears", 3, 0);
            due(new ListenerIsTired(), 0, "drawn", 5, 40);
            due(new ListenerIsTired(), 0, "chance", 5, 20, 1, 0);
            due(new ListenerIsTired(), 1, "chance", 5, 20, 0, 0);
            due(new ListenerIsTired(), 0, "image");
        });
    }

    private static void set() {
        in("Promise 2");
        sentence("DAY (what 0; of does not matter)", () -> {
            int was = 0;
            ListenerIsTired x = new ListenerIsTired();
            for (int of : new int[] {0, -1, 5, MIN, MAX}) {
                due(x, was, "set", DAY, of, was + 1);
                was++;
                due(x, was, "told", of, DAY);
            }
            refused(Valleys::some, NO_VALUE, "set", DAY, 0, 1000);
            refused(Valleys::some, NO_VALUE, "set", DAY, MAX, -1);
        });
        sentence("NUMBER (1), how TIRED (2), STORY (3),", () -> {
            int[] most = {0, 9, 99, 99};
            for (int what = 1; what <= 3; what++) {
                ListenerIsTired x = with(WIFE, 0, WIFE, 0);
                due(x, 0, "set", what, 1, most[what]);
                due(x, most[what], "set", what, 1, most[what]);
                for (int other = 1; other <= 3; other++) {
                    stand(x, other, 0, other == what ? most[what] : 0);
                }
                due(x, most[what], "set", what, 1, 0);
                due(x, 0, "told", 1, what);
                refused(Valleys::some, NO_VALUE, "set", what, 1, most[what] + 1);
                refused(Valleys::some, NO_VALUE, "set", what, 1, -1);
            }
        });
        sentence("EAR (4; NONE; not oneself)", () -> {
            for (int one = 0; one < 5; one++) {
                ListenerIsTired x = Valleys.fullOfPeople();
                due(x, NO_VALUE, "set", EAR, one, one);
                due(x, NONE, "set", EAR, one, (one + 1) % 5);
                due(x, NO_VALUE, "set", EAR, one, one);
                due(x, (one + 1) % 5, "set", EAR, one, NONE);
            }
        });
        sentence("HEARD (5),", () -> {
            ListenerIsTired x = with(DOG, 0, DOG, 0);
            due(x, 0, "set", HEARD, 1, 99);
            due(x, 99, "set", HEARD, 1, 98);
            stand(x, HEARD, 0, 98);
            due(x, 98, "set", HEARD, 1, 0);
            stand(x, HEARD, 0, 0);
            refused(Valleys::some, NO_VALUE, "set", HEARD, 1, 100);
            refused(Valleys::some, NO_VALUE, "set", HEARD, 1, -1);
        });
        sentence("ASLEEP (6; 1, 0) of one of PEOPLE becomes v: what it was.", () -> {
            ListenerIsTired x = with(DOG, 0, DOG, 0);
            due(x, 0, "set", ASLEEP, 1, 1);
            due(x, 1, "set", ASLEEP, 1, 1);
            stand(x, ASLEEP, 0, 1);
            due(x, 1, "set", ASLEEP, 1, 0);
            due(x, 0, "set", ASLEEP, 1, 0);
            stand(x, ASLEEP, 0, 0);
            refused(Valleys::some, NO_VALUE, "set", ASLEEP, 0, 2);
            refused(Valleys::some, NO_VALUE, "set", ASLEEP, 2, -1);
        });
        sentence("-1000: what, none such, v.", () -> {
            for (int what : new int[] {-1, 7, 8, 9, MIN, MAX}) {
                refused(Valleys::some, NO_VALUE, "set", what, 0, 0);
            }
            for (int of : new int[] {-1, 4, MIN, MAX}) {
                for (int what = 1; what <= 6; what++) {
                    refused(Valleys::some, NO_VALUE, "set", what, of, 0);
                }
            }
            int[] above = {1000, 10, 100, 100, 4, 100, 2};
            for (int what = 0; what <= 6; what++) {
                refused(Valleys::some, NO_VALUE, "set", what, 3, above[what]);
                refused(Valleys::some, NO_VALUE, "set", what, 3, what == EAR ? -2 : -1);
            }
        });
    }

    private static void person() {
        in("Promise 3");
        sentence("One of PEOPLE: the number.", () -> {
            ListenerIsTired x = new ListenerIsTired();
            for (int one = 0; one < 5; one++) {
                due(x, one, "person", 5 - one, 9 - one);
                due(x, one + 1, "count", 0);
            }
            for (int one = 0; one < 5; one++) {
                due(x, 5 - one, "told", one, KIND);
                due(x, 9 - one, "told", one, NUMBER);
            }
        });
        sentence("BAD; FULL.", () -> {
            int[][] none = {{-1, 0}, {6, 0}, {0, -1}, {0, 10}, {MIN, 0}, {MAX, 0}, {0, MIN}, {0, MAX}};
            for (int[] pair : none) {
                refused(Valleys::nobody, BAD, "person", pair[0], pair[1]);
                refused(Valleys::fullOfPeople, BAD, "person", pair[0], pair[1]);
            }
            refused(Valleys::fullOfPeople, FULL, "person", 0, 0);
            refused(Valleys::fullOfPeople, FULL, "person", 5, 9);
        });
    }

    private static void told() {
        in("Promise 4");
        sentence("What 0 .. 6 as of set(), 7 KIND, 8 DOES, 9 what one WEIGHS of one's STORY (1000 more).", () -> {
            ListenerIsTired x = with(LIAR, 9, TELLER, 0);
            int[] values = {999, 9, 98, 99, 1, 97, 1};
            for (int what = 0; what <= 6; what++) {
                x.set(what, 0, values[what]);
            }
            for (int what = 0; what <= 6; what++) {
                due(x, values[what], "told", 0, what);
            }
            due(x, 999, "told", MIN, DAY);
            due(x, LIAR, "told", 0, KIND);
            due(x, TELLER, "told", 1, KIND);
            due(x, 10, "told", 0, DOES);
            due(ruled(with(TELLER, 0), "0", "0", "0"), 0, "told", 0, DOES);
            due(ruled(with(TELLER, 0), "99", "0", "0"), 99, "told", 0, DOES);
            due(x, 951, "told", 0, WEIGHS);
            due(x, 1000, "told", 1, WEIGHS);
            x.set(STORY, 1, 99);
            due(x, 1099, "told", 1, WEIGHS);
        });
        sentence("-1000: none such.", () -> {
            for (int what : new int[] {-1, 10, MIN, MAX}) {
                refused(Valleys::some, NO_VALUE, "told", 0, what);
            }
            for (int what = 1; what <= 9; what++) {
                for (int of : new int[] {-1, 4, MIN, MAX}) {
                    refused(Valleys::some, NO_VALUE, "told", of, what);
                }
            }
        });
    }

    private static void hearing() {
        in("Promise 5");
        sentence("How one HEARS a load (-99 .. 99): how much more TIRED (1000 more).", () -> {
            ListenerIsTired x = with(TELLER, 0, DEAF, 0);
            int[][] loads = {{-99, 901, 901}, {-98, 902, 902}, {0, 1000, 1000}, {1, 1001, 1000}, {98, 1098, 1000}, {99, 1099, 1000}};
            for (int[] load : loads) {
                due(x, load[1], "hears", 0, load[0]);
                due(x, load[2], "hears", 1, load[0]);
            }
            changesNothing(Valleys::some, "hears", 1, 99);
        });
        sentence("BAD.", () -> {
            for (int load : new int[] {-100, 100, MIN, MAX}) {
                refused(Valleys::some, BAD, "hears", 0, load);
            }
            for (int one : new int[] {-1, 4, MIN, MAX}) {
                refused(Valleys::some, BAD, "hears", one, 0);
            }
        });
    }
}
