import java.util.List;
import java.util.function.Supplier;

/** Sentences about what would be best that name a boundary: of the second part of 'Terms' and of promises 14 to 18. */
final class BestBounds extends Sentences {
    private BestBounds() {
    }

    static void all() {
        in("Terms 2");
        earsOfAll();
        spreadOver();
        bestAunt();
        greatestStory();
        meanOfAll();
        ears();
        spread();
        aunt();
        bears();
        mean();
    }

    private static void best(ListenerIsTired x, int n, int digits, int asleep, int tired) {
        due(x, digits, "ears", n, 0);
        due(x, asleep, "ears", n, 1);
        due(x, tired, "ears", n, 2);
    }

    private static ListenerIsTired tellers(int many) {
        ListenerIsTired x = new ListenerIsTired();
        for (int i = 0; i < many; i++) {
            x.person(TELLER, 0);
        }
        return x;
    }

    private static void earsOfAll() {
        sentence("EARS (n 1 .. 3): of all ways to give each one an EAR (NONE, or another one) that by which fewest are ASLEEP behind n DAYS;",
                () -> {
            best(laid(with(LIAR, 0, TELLER, 0), TIRED, 0, 80), 1, 20, 0, 75);
            best(laid(with(LIAR, 0, TELLER, 0), TIRED, 0, 80), 2, 20, 0, 70);
            best(laid(with(LIAR, 0, TELLER, 0), TIRED, 0, 80), 3, 20, 0, 65);
            ListenerIsTired all = laid(laid(with(DOG, 0, DOG, 0, DOG, 0, DOG, 0, DOG, 0), TIRED, 99, 99, 99, 99, 99), ASLEEP, 1, 1, 1, 1, 1);
            best(all, 1, 0, 5, 395);
            best(all, 2, 0, 5, 295);
            best(all, 3, 0, 0, 195);
            best(new ListenerIsTired(), 1, 0, 0, 0);
            best(new ListenerIsTired(), 3, 0, 0, 0);
            best(laid(with(LIAR, 0), TIRED, 80), 1, 0, 1, 80);
            for (int n : new int[] {0, 4, -1, MIN, MAX}) {
                refused(Valleys::some, BAD, "ears", n, 0);
            }
        });
        sentence("of like ones that by which all are least TIRED then, together;", () -> {
            best(laid(with(LIAR, 0, TELLER, 0), TIRED, 0, 50), 1, 20, 0, 45);
            best(laid(with(LIAR, 0, TELLER, 0), TIRED, 0, 50), 3, 20, 0, 35);
            best(laid(laid(with(LIAR, 0, TELLER, 0, TELLER, 0), STORY, 90), TIRED, 0, 10, 30), 1, 300, 0, 10);
            best(laid(with(TELLER, 0, TELLER, 0), TIRED, 7, 50), 2, 0, 0, 57);
        });
        sentence("of these the first by the EAR of 0 (NONE ahead of any), then of 1, ..;", () -> {
            best(with(DOG, 0, DOG, 0, DOG, 0, DOG, 0, DOG, 0), 3, 0, 0, 0);
            best(laid(with(LIAR, 0, LIAR, 0, TELLER, 0, TELLER, 0), TIRED, 0, 0, 60, 60), 1, 3300, 0, 110);
            best(laid(with(LIAR, 0, LIAR, 0, TELLER, 0, TELLER, 0), TIRED, 0, 0, 5, 5), 1, 3400, 0, 0);
            best(laid(with(TELLER, 0, LIAR, 0, LIAR, 0), TIRED, 5, 0, 0), 1, 1, 0, 0);
            best(laid(with(TELLER, 0, LIAR, 0, LIAR, 0), TIRED, 10, 0, 0), 1, 11, 0, 0);
        });
        sentence("as digits (1 more than each, 0: NONE), that of 0 the highest;", () -> {
            best(laid(with(LIAR, 0, DOG, 0, DOG, 0, DOG, 0, DOG, 0), TIRED, 0, 0, 0, 0, 50), 1, 50000, 0, 45);
            best(laid(with(DOG, 0, DOG, 0, DOG, 0, DOG, 0, LIAR, 0), TIRED, 50), 1, 1, 0, 45);
            best(laid(with(DOG, 0, DOG, 0, DOG, 0, LIAR, 0, DOG, 0), TIRED, 0, 0, 0, 0, 50), 1, 50, 0, 45);
            best(laid(with(DOG, 0, LIAR, 0), TIRED, 50), 1, 1, 0, 45);
            best(laid(with(LIAR, 0, DOG, 0), TIRED, 0, 50), 1, 20, 0, 45);
            best(tellers(1), 1, 0, 0, 0);
        });
        sentence("how many; how TIRED all.", () -> {
            best(tellers(5), 1, 0, 0, 0);
            ListenerIsTired all = laid(with(DOG, 0, DOG, 0, DOG, 0, DOG, 0, DOG, 0), TIRED, 99, 99, 99, 99, 99);
            best(all, 1, 0, 5, 495);
        });
    }

    private static void spreads(ListenerIsTired x, int one, int bits, int many) {
        due(x, bits, "spread", one, 0);
        due(x, many, "spread", one, 1);
    }

    private static void spreadOver() {
        sentence("SPREAD (one): the set of fewest others not ASLEEP (one at least; bits) such that,", () -> {
            ListenerIsTired x = laid(tellers(5), STORY, 80);
            spreads(laid(x, TIRED, 99, 59, 59, 59, 59), 0, 30, 4);
            spreads(laid(x, TIRED, 99, 60, 59, 59, 59), 0, NONE, NONE);
            spreads(laid(x, TIRED, 99, 53, 53, 53, 59), 0, 14, 3);
            spreads(laid(x, TIRED, 99, 39, 59, 39, 59), 0, 10, 2);
            x.set(STORY, 0, 79);
            spreads(laid(x, TIRED, 99, 39, 39, 39, 0), 0, 16, 1);
            x.set(ASLEEP, 4, 1);
            spreads(x, 0, 6, 2);
            spreads(laid(x, ASLEEP, 1, 0, 0, 0, 1), 0, 6, 2);
            spreads(laid(x, ASLEEP, 0, 1, 1, 1, 1), 0, NONE, NONE);
            spreads(tellers(1), 0, NONE, NONE);
            spreads(tellers(2), 0, 2, 1);
            spreads(tellers(2), 1, 1, 1);
            spreads(tellers(5), 4, 1, 1);
        });
        sentence("HEARD each one an equal part (cut) of what one WEIGHS of one's STORY now,", () -> {
            spreads(laid(laid(tellers(3), STORY, 61), TIRED, 0, 49, 49), 0, 6, 2);
            spreads(laid(laid(tellers(3), STORY, 62), TIRED, 0, 49, 49), 0, NONE, NONE);
            spreads(laid(laid(tellers(4), STORY, 92), TIRED, 0, 49, 49, 49), 0, 14, 3);
            spreads(laid(laid(tellers(4), STORY, 93), TIRED, 0, 49, 49, 49), 0, NONE, NONE);
            spreads(laid(laid(tellers(2), STORY, 0), TIRED, 0, 79), 0, 2, 1);
            spreads(laid(laid(with(LIAR, 0, TELLER, 0), STORY, 9), TIRED, 0, 83), 0, 2, 1);
            spreads(laid(laid(with(LIAR, 0, TELLER, 0), STORY, 7), TIRED, 0, 83), 0, NONE, NONE);
            spreads(laid(laid(with(DOG, 0, TELLER, 0), STORY, 99), TIRED, 0, 79), 0, 2, 1);
            ListenerIsTired ruled = laid(ruled(tellers(4), "0", "20+asleep*2", "5+asleep"), STORY, 10);
            spreads(laid(ruled, TIRED, 0, 54, 54, 99), 0, 2, 1);
            spreads(laid(ruled, TIRED, 0, 55, 54, 99), 0, 4, 1);
            spreads(laid(ruled, ASLEEP, 0, 0, 0, 1), 0, 6, 2);
            spreads(laid(ruled, TIRED, 0, 54, 53, 99), 0, 4, 1);
        });
        sentence("none of these would be TIRED 80 or more by it;", () -> {
            spreads(laid(laid(tellers(2), STORY, 30), TIRED, 0, 49), 0, 2, 1);
            spreads(laid(laid(tellers(2), STORY, 30), TIRED, 0, 50), 0, NONE, NONE);
            spreads(laid(laid(tellers(2), STORY, 30), TIRED, 0, 99), 0, NONE, NONE);
            spreads(laid(laid(tellers(3), STORY, 1), TIRED, 80, 79, 79), 0, 6, 2);
            spreads(laid(laid(tellers(3), STORY, 1), TIRED, 99, 78, 79), 0, 2, 1);
            spreads(laid(laid(tellers(3), STORY, 0), TIRED, 0, 80, 79), 0, 4, 1);
            spreads(laid(laid(with(TELLER, 0, DEAF, 0), STORY, 99), TIRED, 0, 79), 0, 2, 1);
            spreads(laid(laid(with(TELLER, 0, DEAF, 0), STORY, 99), TIRED, 0, 80), 0, NONE, NONE);
        });
        sentence("of like ones the least as bits; NONE.", () -> {
            ListenerIsTired x = laid(tellers(5), STORY, 0, 0, 0, 0, 60);
            spreads(laid(x, TIRED, 19, 19, 19, 19, 0), 4, 1, 1);
            spreads(laid(x, TIRED, 20, 20, 19, 19, 0), 4, 4, 1);
            spreads(laid(x, TIRED, 49, 49, 49, 49, 0), 4, 3, 2);
            spreads(laid(x, TIRED, 50, 49, 49, 49, 0), 4, 6, 2);
            spreads(laid(x, TIRED, 49, 50, 50, 49, 0), 4, 9, 2);
            spreads(laid(x, TIRED, 59, 59, 59, 59, 0), 4, 7, 3);
            spreads(laid(x, TIRED, 65, 65, 65, 65, 0), 4, NONE, NONE);
        });
    }

    private static void aunts(ListenerIsTired x, int one, int best, int most) {
        due(x, best, "aunt", one, 0);
        due(x, most, "aunt", one, 1);
    }

    private static void bestAunt() {
        sentence("AUNT (one): the other one, not ASLEEP, such that, were it told that one now, the most TIRED of all would be least TIRED;",
                () -> {
            ListenerIsTired x = laid(tellers(3), STORY, 30);
            aunts(laid(x, TIRED, 0, 5, 6), 0, 1, 35);
            aunts(laid(x, TIRED, 0, 6, 5), 0, 2, 35);
            aunts(laid(x, TIRED, 35, 6, 5), 0, 2, 35);
            aunts(laid(x, TIRED, 36, 6, 5), 0, 1, 36);
            aunts(laid(laid(x, TIRED, 0, 6, 5), ASLEEP, 0, 0, 1), 0, 1, 36);
            aunts(laid(laid(x, TIRED, 0, 6, 50), ASLEEP, 1, 0, 1), 0, 1, 50);
            aunts(laid(laid(x, TIRED, 0, 98, 99), ASLEEP, 0, 0, 0), 0, 1, 99);
            aunts(tellers(5), 4, 0, 0);
            aunts(laid(tellers(5), TIRED, 1, 2, 3, 4, 5), 0, 1, 5);
            aunts(laid(laid(tellers(5), STORY, 9), TIRED, 0, 4, 3, 2, 1), 0, 4, 10);
            aunts(laid(laid(with(LIAR, 0, TELLER, 0, TELLER, 0), STORY, 99), TIRED, 0, 40, 49), 0, 2, 40);
            aunts(laid(laid(with(LIAR, 0, TELLER, 0), STORY, 99), TIRED, 0, 49), 0, 1, 0);
            ListenerIsTired ruled = laid(ruled(tellers(4), "0", "20+asleep*2", "5+asleep"), STORY, 10);
            aunts(laid(ruled, TIRED, 0, 3, 2, 1), 0, 3, 26);
            aunts(laid(ruled, ASLEEP, 0, 0, 0, 1), 0, 2, 28);
            aunts(laid(ruled, ASLEEP, 1, 0, 1, 1), 0, 1, 31);
        });
        sentence("of like ones the first; NONE.", () -> {
            ListenerIsTired x = laid(tellers(5), STORY, 10, 10, 10, 10, 10);
            aunts(x, 0, 1, 10);
            aunts(x, 1, 0, 10);
            aunts(laid(x, ASLEEP, 1, 1, 0, 0, 0), 4, 2, 10);
            aunts(laid(x, ASLEEP, 1, 1, 1, 1, 0), 4, NONE, NONE);
            aunts(laid(x, ASLEEP, 1, 1, 1, 0, 1), 4, 3, 10);
            aunts(tellers(1), 0, NONE, NONE);
        });
    }

    private static void greatestStory() {
        sentence("BEARS (one, another one): the greatest STORY (0 .. 99) such that, TOLD by the one now, the other one would be TIRED below 80; "
                + "NONE.", () -> {
            int[][] tired = {{0, 79}, {1, 78}, {50, 29}, {78, 1}, {79, 0}, {80, NONE}, {99, NONE}};
            for (int[] t : tired) {
                due(laid(tellers(2), TIRED, 99, t[0]), t[1], "bears", 0, 1);
            }
            due(with(TELLER, 0, TELLER, 9), 88, "bears", 0, 1);
            due(ruled(tellers(2), "0", "0", "19"), 98, "bears", 0, 1);
            due(ruled(tellers(2), "0", "0", "20"), 99, "bears", 0, 1);
            due(laid(with(TELLER, 0, DEAF, 0), TIRED, 0, 79), 99, "bears", 0, 1);
            due(laid(with(TELLER, 0, DEAF, 0), TIRED, 0, 80), NONE, "bears", 0, 1);
            due(with(TELLER, 0, DOG, 0), 99, "bears", 0, 1);
            due(laid(with(TELLER, 0, DOG, 0), TIRED, 0, 79), 1, "bears", 0, 1);
            due(laid(with(LIAR, 0, TELLER, 0), TIRED, 0, 99), 99, "bears", 0, 1);
            due(laid(with(AUNT, 4, TELLER, 0), TIRED, 0, 79), 4, "bears", 0, 1);
            due(laid(with(DEAF, 0, TELLER, 0), TIRED, 0, 79), 0, "bears", 0, 1);
            due(laid(with(DEAF, 0, TELLER, 0), TIRED, 0, 77), 1, "bears", 0, 1);
            due(ruled(tellers(2), "0", "80", "0"), NONE, "bears", 0, 1);
            due(ruled(tellers(2), "0", "79", "0"), 0, "bears", 0, 1);
        });
    }

    private static void meanOfAll() {
        sentence("MEAN: how TIRED all are, together, by how many there are.", () -> {
            means(laid(tellers(1), TIRED, 99), 99, 1);
            means(laid(tellers(5), TIRED, 99, 99, 99, 99, 99), 99, 1);
            means(laid(tellers(5), TIRED, 99, 99, 99, 99, 98), 494, 5);
            means(tellers(5), 0, 1);
            means(laid(tellers(5), TIRED, 0, 0, 0, 0, 1), 1, 5);
            means(laid(laid(tellers(2), TIRED, 50, 51), ASLEEP, 1, 1), 101, 2);
        });
    }

    private static void means(ListenerIsTired x, long above, long below) {
        due(x, above, "mean", 0);
        due(x, below, "mean", 1);
    }

    /** What is BAD of a call with one of PEOPLE and a what of 0 and 1. */
    private static void refusesOneAndWhat(String name) {
        for (int one : new int[] {-1, 4, MIN, MAX}) {
            refused(Valleys::some, BAD, name, one, 0);
        }
        for (int what : new int[] {-1, 2, MIN, MAX}) {
            refused(Valleys::some, BAD, name, 0, what);
        }
        refused(Valleys::fullOfPeople, BAD, name, 5, 0);
        for (Supplier<ListenerIsTired> valley : List.<Supplier<ListenerIsTired>>of(Valleys::some, Valleys::fullOfPeople)) {
            changesNothing(valley, name, 3, 0);
            changesNothing(valley, name, 3, 1);
        }
    }

    private static void ears() {
        in("Promise 14");
        sentence("EARS (what 0; digits), how many are ASLEEP then (1), how TIRED all (2). BAD.", () -> {
            for (int n : new int[] {0, 4, MIN, MAX}) {
                refused(Valleys::some, BAD, "ears", n, 2);
            }
            for (int what : new int[] {-1, 3, MIN, MAX}) {
                refused(Valleys::some, BAD, "ears", 1, what);
                refused(Valleys::nobody, BAD, "ears", 3, what);
            }
            ListenerIsTired x = laid(with(LIAR, 0, TELLER, 0, DOG, 0), TIRED, 0, 80, 95);
            best(x, 1, 200, 1, 170);
            stand(x, EAR, NONE, NONE, NONE);
            changesNothing(Valleys::some, "ears", 1, 0);
            changesNothing(Valleys::fullOfPeople, "ears", 3, 2);
        });
    }

    private static void spread() {
        in("Promise 15");
        sentence("SPREAD (what 0; bits; NONE), over how many (1; NONE). BAD.", () -> {
            refusesOneAndWhat("spread");
            spreads(tellers(1), 0, NONE, NONE);
            spreads(laid(laid(tellers(5), STORY, 0, 0, 0, 0, 80), TIRED, 59, 59, 59, 59), 4, 15, 4);
        });
    }

    private static void aunt() {
        in("Promise 16");
        sentence("AUNT (what 0; NONE), how TIRED the most TIRED of all would be (1; NONE). BAD.", () -> {
            refusesOneAndWhat("aunt");
            aunts(tellers(1), 0, NONE, NONE);
            aunts(tellers(2), 1, 0, 0);
            aunts(laid(tellers(2), TIRED, 99, 99), 0, 1, 99);
        });
    }

    private static void bears() {
        in("Promise 17");
        sentence("BEARS. BAD: no such two, one and the same; NONE.", () -> {
            int[][] none = {{-1, 0}, {0, -1}, {4, 0}, {0, 4}, {0, 0}, {2, 2}, {3, 3}, {4, 4}, {-1, -1}, {MIN, 0}, {0, MAX}};
            for (int[] pair : none) {
                refused(Valleys::some, BAD, "bears", pair[0], pair[1]);
            }
            due(laid(tellers(5), TIRED, 80), NONE, "bears", 4, 0);
            due(laid(tellers(5), TIRED, 79), 0, "bears", 4, 0);
            due(laid(laid(tellers(2), TIRED, 0, 10), ASLEEP, 1, 1), 69, "bears", 0, 1);
            changesNothing(Valleys::some, "bears", 0, 2);
            changesNothing(Valleys::some, "bears", 3, 0);
        });
    }

    private static void mean() {
        in("Promise 18");
        sentence("MEAN: part 0 above, 1 below the line, in lowest terms.", () -> {
            means(laid(tellers(4), TIRED, 1, 1, 0, 0), 1, 2);
            means(laid(tellers(4), TIRED, 99, 99, 99, 1), 149, 2);
            means(laid(tellers(4), TIRED, 1, 2, 0, 0), 3, 4);
            means(laid(tellers(3), TIRED, 99, 99, 99), 99, 1);
            means(laid(tellers(3), TIRED, 0, 0, 2), 2, 3);
            means(tellers(1), 0, 1);
            changesNothing(Valleys::some, "mean", 0);
            changesNothing(Valleys::some, "mean", 1);
        });
        sentence("NO: part, there is nobody.", () -> {
            for (int part : new int[] {-1, 2, MIN, MAX}) {
                refused(Valleys::some, NO, "mean", part);
                refused(Valleys::nobody, NO, "mean", part);
            }
            refused(Valleys::nobody, NO, "mean", 0);
            refused(Valleys::nobody, NO, "mean", 1);
        });
    }
}
