import java.util.Arrays;
import java.util.function.Supplier;

/** Sentences about what was told that name a boundary: of the second part of 'Terms' and of promises 19 to 25. */
final class ToldBounds extends Sentences {
    private static final int FIRST = 0, KINDS = 1, NUMBERS = 2, STORIES = 3, LEAST = 4, EARS = 5, TEXTS = 6, PEOPLE = 7;
    /** How TIRED one is who is told by a TELLER day by day, both with NUMBER 0, by TEXT 0. */
    private static final int[] TWENTY = {10, 20, 30, 40, 50, 60, 70, 80, 60, 40, 20, 60, 70, 80, 60, 40, 20, 60, 70, 80};

    private ToldBounds() {
    }

    static void all() {
        in("Terms 2");
        sheetTells();
        whichOnes();
        drawnBySeed();
        inSeeds();
        imageKeeps();
        tells();
        film();
        drawn();
        chance();
        image();
        back();
        count();
    }

    private static ListenerIsTired tellers(int many) {
        ListenerIsTired x = new ListenerIsTired();
        for (int i = 0; i < many; i++) {
            x.person(TELLER, 0);
        }
        return x;
    }

    /** Asks what a SHEET 0 with these items tells of one. */
    private static void told(ListenerIsTired x, long want, int one, int by, int what, int... items) {
        row(x, 0, INTS, items);
        same("tells(0, " + one + ", " + by + ", " + what + ") of " + Arrays.toString(items), want, x.tells(0, one, by, what));
    }

    private static void sheetTells() {
        sentence("TOLD: a SHEET tells how TIRED one is behind 1, 2, .. DAYS (20 at most): the first (from 0) that is otherwise; NONE;", () -> {
            ListenerIsTired x = laid(tellers(2), EAR, 1);
            told(x, NONE, 1, 1, FIRST);
            told(x, NONE, 1, 1, FIRST, 10);
            told(x, 0, 1, 1, FIRST, 0);
            told(x, NONE, 1, 1, FIRST, TWENTY);
            for (int i = 0; i < 20; i++) {
                int[] otherwise = TWENTY.clone();
                otherwise[i]++;
                told(laid(tellers(2), EAR, 1), i, 1, 1, FIRST, otherwise);
                otherwise[19] = 100;
                told(laid(tellers(2), EAR, 1), i, 1, 1, FIRST, otherwise);
            }
            told(x, BAD, 1, 1, FIRST, Arrays.copyOf(TWENTY, 21));
            told(laid(laid(tellers(2), TIRED, 0, 99), ASLEEP, 0, 1), NONE, 1, 1, FIRST, 79, 59, 39, 39);
            told(laid(tellers(1), TIRED, 99), NONE, 0, 0, FIRST, 99, 79);
        });
    }

    private static void whichOnes() {
        sentence("of one of PEOPLE (by), whoever, KINDS (bits 0 .. 5),", () -> {
            ListenerIsTired x = laid(laid(laid(tellers(2), EAR, NONE, 0), TIRED, 50), STORY, 0, 20);
            told(x, 1, 0, 1, KINDS, 80);
            told(x, 2 + 8, 0, 1, KINDS, 75);
            told(x, 4, 0, 1, KINDS, 99);
            told(x, 16, 0, 1, KINDS, 50);
            told(x, 32, 0, 1, KINDS, 35);
            told(x, 0, 0, 1, KINDS, 0);
            told(x, 63, 0, 1, KINDS);
            told(x, 1 + 2 + 32, 0, 0, KINDS, 80);
            told(x, 63, 1, 1, KINDS, 0);
            stand(x, KIND, TELLER, TELLER);
        });
        sentence("NUMBERS (bits 0 .. 9),", () -> {
            ListenerIsTired x = laid(laid(tellers(2), EAR, NONE, 0), STORY, 0, 10);
            told(x, 1, 0, 0, NUMBERS, 20);
            told(x, 32, 0, 0, NUMBERS, 15);
            told(x, 512, 0, 0, NUMBERS, 11);
            told(x, 0, 0, 0, NUMBERS, 10);
            told(x, 0, 0, 0, NUMBERS, 21);
            told(x, 1023, 0, 0, NUMBERS);
            told(x, 1023, 0, 1, NUMBERS, 20);
            stand(x, NUMBER, 0, 0);
        });
        sentence("STORIES (of 0 .. 99: how many, the least),", () -> {
            ListenerIsTired x = laid(laid(tellers(2), EAR, NONE, 0), STORY, 0, 33);
            int[][] rows = {{9, 0, NONE}, {10, 1, 0}, {11, 1, 1}, {98, 1, 88}, {99, 11, 89}, {100, 0, NONE}};
            for (int[] row : rows) {
                told(x, row[1], 0, 1, STORIES, row[0]);
                told(x, row[2], 0, 1, LEAST, row[0]);
            }
            told(x, 100, 0, 1, STORIES);
            told(x, 0, 0, 1, LEAST);
            told(x, 100, 0, 0, STORIES, 43);
            told(x, 0, 0, 0, LEAST, 43);
            stand(x, STORY, 0, 33);
            ruled(x, "0", "0", "0");
            told(x, 1, 0, 1, STORIES, 99);
            told(x, 99, 0, 1, LEAST, 99);
            told(x, 1, 0, 1, STORIES, 0);
            told(x, 0, 0, 1, LEAST, 0);
        });
        sentence("EARS (bits 0 .. 4; bit 5: NONE; oneself never);", () -> {
            ListenerIsTired x = tellers(5);
            told(x, 16, 4, 0, EARS, 10);
            told(x, 1, 0, 4, EARS, 10);
            told(x, 2 + 4 + 8 + 32, 0, 4, EARS, 0);
            told(x, 2 + 4 + 8 + 16 + 32, 0, 0, EARS, 0);
            told(x, 0, 0, 0, EARS, 10);
            for (int by = 0; by < 5; by++) {
                told(x, 63 - (1 << by), 0, by, EARS);
            }
            stand(x, EAR, NONE, NONE, NONE, NONE, NONE);
            told(tellers(1), 32, 0, 0, EARS);
            told(tellers(2), 1 + 32, 0, 1, EARS);
            told(tellers(2), 32, 0, 1, EARS, 0);
            told(tellers(2), 1, 0, 1, EARS, 10);
            told(tellers(3), 1 + 4 + 32, 0, 1, EARS);
        });
        sentence("TEXTS (bits), were they THE RULE, by which it would be so;", () -> {
            ListenerIsTired x = laid(tellers(2), EAR, 1);
            told(x, 1, 1, 1, TEXTS);
            told(x, 1, 1, 1, TEXTS, 10);
            told(x, 0, 1, 1, TEXTS, 5);
            for (int i = 1; i <= 5; i++) {
                ruled(x, String.valueOf(i), "0", "0");
                told(x, (2 << i) - 1, 1, 1, TEXTS);
                told(x, 1 << i, 1, 1, TEXTS, i);
                told(x, 1, 1, 1, TEXTS, 10);
            }
            due(x, 5, "count", 5);
            told(x, 0, 1, 1, TEXTS, 6);
            told(x, 63, 0, 0, TEXTS, 0);
        });
        sentence("PEOPLE (bits) of whom it is so.", () -> {
            ListenerIsTired x = laid(with(DOG, 0, DOG, 0, DOG, 0, DOG, 0, DOG, 0), TIRED, 7, 8, 8, 8, 9);
            told(x, 1, 3, 3, PEOPLE, 7, 7);
            told(x, 2 + 4 + 8, 0, 0, PEOPLE, 8, 8);
            told(x, 16, 0, 0, PEOPLE, 9);
            told(x, 0, 0, 0, PEOPLE, 7, 8);
            told(x, 31, 4, 0, PEOPLE);
            told(with(DOG, 0), 1, 0, 0, PEOPLE);
        });
    }

    private static int next(int last) {
        return last * 1103515245 + 12345;
    }

    /** DRAWN by truly setting EARS and passing DAYS, where the document's words are gone by one by one. */
    private static long drawnTruly(Supplier<ListenerIsTired> valley, int seed, int n) {
        ListenerIsTired x = valley.get();
        int z = seed;
        for (int i = 0; i < n; i++) {
            z = next(z);
            int one = (z >>> 9) % 8;
            z = next(z);
            int ear = (z >>> 9) % 8;
            if (one < x.count(0) && ear < x.count(0) && one != ear) {
                x.set(EAR, one, ear);
            }
            x.day();
        }
        long together = 0;
        for (int one = 0; one < x.count(0); one++) {
            together += x.told(one, TIRED);
        }
        return together;
    }

    private static void drawnBySeed() {
        sentence("DRAWN by a SEED: n DAYS (0 .. 40), in thought, ahead of each who is numbered (z >>> 9) % 8 has who is numbered "
                + "(y >>> 9) % 8 for an EAR, if these are two that are there", () -> {
            int oneself = 0;
            int noSuchEar = 0;
            int noSuchOne = 0;
            int set = 0;
            for (int seed = -150; seed <= 150; seed++) {
                int one = (next(seed) >>> 9) % 8;
                int ear = (next(next(seed)) >>> 9) % 8;
                boolean areTwo = one <= 1 && ear <= 1 && one != ear;
                due(tellers(2), areTwo ? 10 : 0, "drawn", seed, 1);
                due(laid(tellers(2), EAR, 1), one == 1 && areTwo ? 20 : 10, "drawn", seed, 1);
                oneself += one <= 1 && one == ear ? 1 : 0;
                noSuchEar += one <= 1 && ear == 2 ? 1 : 0;
                noSuchOne += one == 2 && ear <= 1 ? 1 : 0;
                set += areTwo ? 1 : 0;
            }
            expect("each comes about", oneself > 0 && noSuchEar > 0 && noSuchOne > 0 && set > 0);
            Supplier<ListenerIsTired> five = Valleys::fullOfPeople;
            for (int n : new int[] {0, 1, 2, 10, 39, 40}) {
                due(five.get(), drawnTruly(five, 77, n), "drawn", 77, n);
                due(new ListenerIsTired(), 0, "drawn", 77, n);
            }
            due(laid(tellers(5), TIRED, 99, 99, 99, 99, 99), 495, "drawn", 77, 0);
            changesNothing(Valleys::some, "drawn", 77, 40);
        });
        sentence("(z, then y, each being the last one * 1103515245 + 12345, an int; SEED at first):", () -> {
            due(tellers(4), 10, "drawn", 0, 1);
            due(tellers(3), 0, "drawn", 0, 1);
            Supplier<ListenerIsTired> five = Valleys::fullOfPeople;
            for (int seed : new int[] {0, 1, -1, MIN, MIN + 1, MAX, MAX - 1, 1 << 30, -740551042}) {
                for (int n = 0; n <= 40; n += 8) {
                    due(five.get(), drawnTruly(five, seed, n), "drawn", seed, n);
                }
            }
        });
        sentence("how TIRED all are, together, then.", () -> {
            due(laid(tellers(1), TIRED, 99), 99, "drawn", 3, 1);
            due(laid(laid(with(DOG, 0, DOG, 0, DOG, 0, DOG, 0, DOG, 0), TIRED, 99, 99, 99, 99, 99), ASLEEP, 1, 1, 1, 1, 1), 395, "drawn", 3, 1);
            due(with(DOG, 0, DOG, 0, DOG, 0), 0, "drawn", 3, 40);
        });
    }

    private static void chances(ListenerIsTired x, int seed, int m, int k, long above, long below) {
        due(x, above, "chance", seed, m, k, 0);
        due(x, below, "chance", seed, m, k, 1);
    }

    private static void inSeeds() {
        sentence("IN m seeds (1 .. 20), SEED and each 1 more (an int), 10 DAYS: of these those by which that is k (0 .. 500) or more.", () -> {
            ListenerIsTired x = Valleys.fullOfPeople();
            int greatest = x.drawn(MAX, 10);
            int least = x.drawn(MIN, 10);
            expect("MAX and MIN lead to other sums", greatest != least);
            int more = Math.max(greatest, least);
            chances(x, MAX, 2, more, 1, 2);
            chances(x, MAX, 2, Math.min(greatest, least), 1, 1);
            chances(x, MAX, 2, more + 1, 0, 1);
            chances(x, MAX, 1, greatest, 1, 1);
            chances(x, MAX, 1, greatest + 1, 0, 1);
            chances(x, MIN, 1, least, 1, 1);
            chances(x, MIN, 1, least + 1, 0, 1);
            for (int m = 1; m <= 20; m++) {
                chances(x, -7, m, 0, 1, 1);
                chances(x, -7, m, 500, 0, 1);
            }
            chances(laid(with(DOG, 0, DOG, 0, DOG, 0, DOG, 0, DOG, 0), TIRED, 79, 79, 79, 79, 79), 5, 20, 395, 1, 1);
            chances(laid(with(DOG, 0, DOG, 0, DOG, 0, DOG, 0, DOG, 0), TIRED, 79, 79, 79, 79, 79), 5, 20, 396, 0, 1);
        });
    }

    private static void imageKeeps() {
        sentence("AN IMAGE keeps DAY, NUMBERS, how TIRED, STORIES, EARS, HEARD, who is ASLEEP, THE RULE (PEOPLE that came since go).", () -> {
            int[] kept = {999, 9, 99, 98, 1, 97, 1};
            int[] then = {0, 0, 0, 0, NONE, 0, 0};
            for (int turn = 0; turn < 2; turn++) {
                ListenerIsTired x = with(WIFE, 0, AUNT, 0);
                read(x, "does 1;weighs 1;spares 1;");
                x.force(1 - turn);
                for (int what = 0; what <= 6; what++) {
                    x.set(what, 0, turn == 0 ? kept[what] : then[what]);
                }
                due(x, 2, "image");
                for (int what = 0; what <= 6; what++) {
                    x.set(what, 0, turn == 0 ? then[what] : kept[what]);
                }
                x.force(turn);
                for (int one = 2; one < 5; one++) {
                    due(x, one, "person", DOG, 1);
                }
                x.set(EAR, 1, 4);
                due(x, 2, "back");
                for (int what = 0; what <= 6; what++) {
                    due(x, turn == 0 ? kept[what] : then[what], "told", 0, what);
                }
                stand(x, KIND, WIFE, AUNT, NO_VALUE, NO_VALUE, NO_VALUE);
                due(x, NONE, "told", 1, EAR);
                due(x, 1 - turn, "count", 5);
                due(x, 2, "count", 0);
            }
        });
    }

    private static Supplier<ListenerIsTired> withSheet3(int size) {
        return () -> {
            ListenerIsTired x = Valleys.some();
            x.sheet(3, BYTES, size);
            return x;
        };
    }

    private static void tells() {
        in("Promise 19");
        sentence("TOLD of one: the first that is otherwise (what 0; NONE), KINDS (1), NUMBERS (2), STORIES: how many (3), the least (4; NONE), "
                + "EARS (5) (1 .. 5 of who is numbered by), TEXTS (6), PEOPLE (7).", () -> {
            ListenerIsTired x = with(DOG, 0, DOG, 0, DOG, 0, DOG, 0, DOG, 0);
            int[] all = {NONE, 63, 1023, 100, 0, 31 - 16 + 32, 1, 31};
            int[] never = {0, 0, 0, 0, NONE, 0, 0, 0};
            for (int what = 0; what <= 7; what++) {
                told(x, all[what], 0, 4, what);
                told(x, all[what], 4, 4, what, 0, 0);
                told(x, never[what], 4, 4, what, 100);
                changesNothing(withSheet3(20), "tells", 3, 3, 0, what);
                changesNothing(Valleys::some, "tells", 0, 0, 1, what);
            }
        });
        sentence("BAD: SHEET, no such one, no such by, what; -11; BAD: it tells more than 20.", () -> {
            for (int sheet : new int[] {-1, 4, MIN, MAX}) {
                refused(Valleys::some, BAD, "tells", sheet, 0, 0, 0);
            }
            for (int one : new int[] {-1, 4, MIN, MAX}) {
                refused(Valleys::some, BAD, "tells", 0, one, 0, 7);
                refused(Valleys::some, BAD, "tells", 0, 0, one, 7);
                refused(Valleys::some, BAD, "tells", 0, 0, one, 0);
                refused(Valleys::some, BAD, "tells", 3, one, 0, 0);
                refused(Valleys::some, BAD, "tells", 3, 0, one, 1);
            }
            for (int what : new int[] {-1, 8, MIN, MAX}) {
                refused(Valleys::some, BAD, "tells", 0, 0, 0, what);
                refused(Valleys::some, BAD, "tells", 3, 0, 0, what);
            }
            for (int what = 0; what <= 7; what++) {
                refused(Valleys::some, NOTHING, "tells", 3, 3, 0, what);
                refused(withSheet3(21), BAD, "tells", 3, 0, 0, what);
                refused(withSheet3(40), BAD, "tells", 3, 0, 0, what);
            }
        });
    }

    private static void film() {
        in("Promise 20");
        sentence("A SHEET truly becomes how TIRED one is behind 1, .., n DAYS (n 0 .. 20; bytes): n.", () -> {
            for (int sheet = 0; sheet <= 3; sheet++) {
                ListenerIsTired x = laid(tellers(2), EAR, 1);
                row(x, sheet, INTS, 1, 2, 3);
                for (int n : new int[] {0, 1, 20, 19, 0}) {
                    due(x, n, "film", sheet, 1, n);
                    due(x, n, "copy", sheet, 0, sheet, 0, n);
                    due(x, OUTSIDE, "copy", sheet, 0, sheet, 0, n + 1);
                    due(x, OUTSIDE, "cell", sheet, n, 0);
                    due(x, 0, "valley", sheet, BYTES, 0, 0);
                    due(x, NONE, "tells", sheet, 1, 1, 0);
                    due(x, n == 0 ? NONE : 0, "tells", sheet, 0, 0, 0);
                }
                stand(x, TIRED, 0, 0);
                due(x, 20, "film", sheet, 1, 20);
                for (int i = 0; i < 20; i++) {
                    expect("item " + i + " of the film", itemIs(x, sheet, i, TWENTY[i]));
                }
            }
            due(laid(tellers(1), TIRED, 99), 1, "film", 0, 0, 1);
        });
        sentence("BAD.", () -> {
            for (int sheet : new int[] {-1, 4, MIN, MAX}) {
                refused(Valleys::some, BAD, "film", sheet, 0, 1);
            }
            for (int one : new int[] {-1, 4, MIN, MAX}) {
                refused(Valleys::some, BAD, "film", 0, one, 1);
            }
            for (int n : new int[] {-1, 21, MIN, MAX}) {
                refused(Valleys::some, BAD, "film", 0, 0, n);
                refused(Valleys::some, BAD, "film", 3, 0, n);
            }
        });
    }

    private static void drawn() {
        in("Promise 21");
        sentence("DRAWN. BAD: n.", () -> {
            for (int n : new int[] {-1, 41, MIN, MAX}) {
                refused(Valleys::some, BAD, "drawn", 0, n);
                refused(Valleys::nobody, BAD, "drawn", MIN, n);
            }
            due(with(DOG, 0), 0, "drawn", MAX, 40);
            due(with(DOG, 0), 0, "drawn", MIN, 0);
        });
    }

    private static void chance() {
        in("Promise 22");
        sentence("IN m seeds: part 0 above, 1 below the line, in lowest terms.", () -> {
            ListenerIsTired x = Valleys.fullOfPeople();
            boolean wasCut = false;
            for (int m = 1; m <= 20; m++) {
                int k = x.drawn(4, 10);
                int many = 0;
                for (int i = 0; i < m; i++) {
                    many += x.drawn(i, 10) >= k ? 1 : 0;
                }
                int common = m;
                while (many % common != 0 || m % common != 0) {
                    common--;
                }
                wasCut |= common > 1 && common < m;
                chances(x, 0, m, k, many / common, m / common);
            }
            expect("one is cut down", wasCut);
            chances(new ListenerIsTired(), 0, 20, 0, 1, 1);
            chances(new ListenerIsTired(), 0, 20, 1, 0, 1);
            changesNothing(Valleys::some, "chance", 0, 20, 100, 0);
        });
        sentence("NO: m, k, part.", () -> {
            for (int m : new int[] {0, 21, -1, MIN, MAX}) {
                refused(Valleys::some, NO, "chance", 0, m, 0, 0);
                refused(Valleys::nobody, NO, "chance", 0, m, 0, 1);
            }
            for (int k : new int[] {-1, 501, MIN, MAX}) {
                refused(Valleys::some, NO, "chance", 0, 1, k, 0);
            }
            for (int part : new int[] {-1, 2, MIN, MAX}) {
                refused(Valleys::some, NO, "chance", 0, 1, 0, part);
            }
        });
    }

    private static void image() {
        in("Promise 23");
        sentence("AN IMAGE is kept: how many PEOPLE.", () -> {
            ListenerIsTired x = new ListenerIsTired();
            for (int many = 0; many <= 5; many++) {
                due(x, many, "image");
                due(x, many, "count", 0);
                due(x, many, "back");
                x.person(DOG, 0);
            }
            due(x, 5, "image");
            due(x, 5, "image");
        });
    }

    private static void back() {
        in("Promise 24");
        sentence("All that it keeps is as in THE IMAGE: how many PEOPLE.", () -> {
            ListenerIsTired x = new ListenerIsTired();
            x.image();
            for (int i = 0; i < 5; i++) {
                x.person(DOG, 0);
            }
            due(x, 0, "back");
            due(x, 0, "count", 0);
            due(x, 0, "back");
            ListenerIsTired kept = with(DOG, 0);
            row(kept, 0, INTS, 4);
            kept.feed('d');
            kept.image();
            kept.feed('o');
            row(kept, 0, INTS, 5, 6);
            same("a FAULT", -100, kept.text());
            same("a TEXT", 1, read(kept, "does 1;weighs 1;spares 1;"));
            kept.feed('w');
            due(kept, 1, "back");
            due(kept, 2, "count", 3);
            due(kept, 1, "count", 4);
            expect("SHEETS are no part of it", itemIs(kept, 0, 0, 5) && itemIs(kept, 0, 1, 6));
        });
        sentence("STATE: there is none.", () -> {
            refused(Valleys::nobody, STATE, "back");
            refused(Valleys::fullOfPeople, STATE, "back");
            due(Valleys.some(), 3, "back");
        });
    }

    private static void count() {
        in("Promise 25");
        sentence("How many: 0 PEOPLE, 1 who are ASLEEP, 2 DAY, 3 TEXTS, 4 bytes of THE TAPE, 5 THE RULE.", () -> {
            int[] least = {0, 0, 0, 1, 0, 0};
            int[] most = {5, 5, 999, 6, 160, 5};
            ListenerIsTired x = laid(tellers(5), ASLEEP, 1, 1, 1, 1, 1);
            x.set(DAY, 0, 999);
            for (int i = 1; i <= 5; i++) {
                read(x, "does" + i + ";weighs0;spares0;");
            }
            x.force(5);
            for (int i = 0; i < 160; i++) {
                x.feed(0);
            }
            for (int what = 0; what <= 5; what++) {
                due(new ListenerIsTired(), least[what], "count", what);
                due(x, most[what], "count", what);
                changesNothing(Valleys::some, "count", what);
            }
        });
        sentence("BAD.", () -> {
            for (int what : new int[] {-1, 6, MIN, MAX}) {
                refused(Valleys::some, BAD, "count", what);
            }
        });
    }
}
