import java.util.Arrays;
import java.util.function.Supplier;

/** Sentences about the host that name a boundary: of the third part of 'Terms' and of promises 26 to 30. */
final class HostBounds extends Sentences {
    private HostBounds() {
    }

    static void all() {
        sheets();
        sheet();
        cell();
        copy();
        valley();
        taken();
    }

    private static void items(ListenerIsTired x, int sheet, int... items) {
        for (int i = 0; i < items.length; i++) {
            expect("item " + i + " of SHEET " + sheet + " is " + items[i], itemIs(x, sheet, i, items[i]));
        }
    }

    private static void sheets() {
        in("Terms 3");
        sentence("SHEETS 0 .. 3 are rows of numbers, or missing (as all are at first): of sort 0 bytes, 1 shorts, 2 ints.", () -> {
            ListenerIsTired x = new ListenerIsTired();
            for (int sheet = 0; sheet <= 3; sheet++) {
                due(x, NOTHING, "cell", sheet, 0, 0);
                due(x, NOTHING, "copy", sheet, 0, sheet, 0, 0);
                due(x, NOTHING, "valley", sheet, BYTES, 0, 0);
            }
            for (int sheet = 0; sheet <= 3; sheet++) {
                for (int sort = 0; sort <= 2; sort++) {
                    due(x, 1, "sheet", sheet, sort, 2);
                    for (int other = 0; other <= 2; other++) {
                        due(x, other == sort ? 0 : UNLIKE, "valley", sheet, other, 0, 0);
                    }
                }
            }
            for (int sheet : new int[] {-1, 4, MIN, MAX}) {
                refused(Valleys::some, BAD, "sheet", sheet, 0, 1);
                refused(Valleys::some, BAD, "cell", sheet, 0, 1);
            }
        });
    }

    private static void sheet() {
        in("Promise 26");
        sentence("A SHEET becomes a row of n of a sort, all 0, or missing (sort -1: n does not matter): 1.", () -> {
            for (int sort = 0; sort <= 2; sort++) {
                ListenerIsTired x = with(DOG, 0);
                for (int n : new int[] {0, 1, 39, 40}) {
                    due(x, 1, "sheet", 3, sort, n);
                    due(x, n, "copy", 3, 0, 3, 0, n);
                    due(x, OUTSIDE, "cell", 3, n, 1);
                    due(x, n == 0 ? OUTSIDE : 1, "cell", 3, n - 1, 1);
                }
                row(x, 0, sort, 7, 7, 7);
                due(x, 1, "sheet", 0, sort, 3);
                items(x, 0, 0, 0, 0);
                due(x, 1, "sheet", 0, (sort + 1) % 3, 2);
                due(x, OUTSIDE, "cell", 0, 2, 0);
                for (int n : new int[] {0, 1, -1, 40, 41, MIN, MAX}) {
                    due(x, 1, "sheet", 0, sort, 3);
                    due(x, 1, "sheet", 0, MISSING, n);
                    due(x, NOTHING, "cell", 0, 0, 0);
                    due(x, 1, "sheet", 0, MISSING, n);
                }
            }
        });
        sentence("BAD: no such SHEET, sort; n above 40; -14.", () -> {
            for (int sheet : new int[] {-1, 4, MIN, MAX}) {
                refused(Valleys::some, BAD, "sheet", sheet, BYTES, 1);
                refused(Valleys::some, BAD, "sheet", sheet, MISSING, 1);
                refused(Valleys::some, BAD, "sheet", sheet, INTS, -1);
            }
            for (int sort : new int[] {-2, 3, MIN, MAX}) {
                refused(Valleys::some, BAD, "sheet", 0, sort, 1);
                refused(Valleys::some, BAD, "sheet", 3, sort, -1);
            }
            for (int sort = 0; sort <= 2; sort++) {
                for (int sheet = 0; sheet <= 3; sheet++) {
                    refused(Valleys::some, BAD, "sheet", sheet, sort, 41);
                    refused(Valleys::some, BAD, "sheet", sheet, sort, MAX);
                    refused(Valleys::some, BELOW, "sheet", sheet, sort, -1);
                    refused(Valleys::some, BELOW, "sheet", sheet, sort, MIN);
                }
            }
        });
    }

    /** An item of a sort that v was put into: seen as 0 .. 99, or as none of these. */
    private static void put(int sort, int v, int want) {
        ListenerIsTired x = row(with(DOG, 0), 0, sort, 5, 5);
        due(x, 1, "cell", 0, 1, v);
        expect("the other item stays", itemIs(x, 0, 0, 5));
        int seen = -1;
        for (int could = 0; could <= 99 && seen < 0; could++) {
            ListenerIsTired y = row(with(DOG, 0), 0, sort, 5, 5);
            y.cell(0, 1, v);
            seen = itemIs(y, 0, 1, could) ? could : -1;
        }
        same("what " + v + " is seen as, in sort " + sort, want, seen);
    }

    private static void cell() {
        in("Promise 27");
        sentence("Item i of a SHEET becomes v (of bytes, shorts its lowest 8, 16 bits): 1.", () -> {
            int[] values = {0, 99, 100, -1, 127, 128, 255, 256, 256 + 7, -256 + 7, -249 - 256, 65535, 65536, 65536 + 7, -65536 + 7, 32767, 32768,
                MIN, MIN + 7, MAX, MAX - 255 + 7};
            int[] bytes = {0, 99, -1, -1, -1, -1, -1, 0, 7, 7, 7, -1, 0, 7, 7, -1, 0, 0, 7, -1, 7};
            int[] shorts = {0, 99, -1, -1, -1, -1, -1, -1, -1, -1, -1, -1, 0, 7, 7, -1, -1, 0, 7, -1, -1};
            int[] ints = {0, 99, -1, -1, -1, -1, -1, -1, -1, -1, -1, -1, -1, -1, -1, -1, -1, -1, -1, -1, -1};
            for (int i = 0; i < values.length; i++) {
                put(BYTES, values[i], bytes[i]);
                put(SHORTS, values[i], shorts[i]);
                put(INTS, values[i], ints[i]);
            }
            for (int sheet = 0; sheet <= 3; sheet++) {
                ListenerIsTired x = with(DOG, 0);
                x.sheet(sheet, INTS, 40);
                due(x, 1, "cell", sheet, 0, 3);
                due(x, 1, "cell", sheet, 39, 4);
                x.sheet((sheet + 1) % 4, INTS, 2);
                due(x, 1, "copy", sheet, 39, (sheet + 1) % 4, 1, 1);
                due(x, 1, "copy", sheet, 0, (sheet + 1) % 4, 0, 1);
                items(x, (sheet + 1) % 4, 3, 4);
            }
        });
        sentence("BAD: no such SHEET; -11; -12.", () -> {
            for (int sheet : new int[] {-1, 4, MIN, MAX}) {
                refused(Valleys::some, BAD, "cell", sheet, 0, 1);
                refused(Valleys::some, BAD, "cell", sheet, -1, 1);
            }
            for (int i : new int[] {0, -1, 6, MIN, MAX}) {
                refused(Valleys::some, NOTHING, "cell", 3, i, 1);
            }
            for (int i : new int[] {-1, 6, 39, 40, MIN, MAX}) {
                refused(Valleys::some, OUTSIDE, "cell", 0, i, 1);
            }
            refused(Valleys::some, OUTSIDE, "cell", 1, 4, 1);
            refused(Valleys::some, OUTSIDE, "cell", 2, 2, 1);
            due(Valleys.some(), 1, "cell", 0, 5, 1);
        });
    }

    private static ListenerIsTired twoRows(int sort) {
        return row(row(with(DOG, 0), 0, sort, 1, 2, 3, 4, 5, 6), 1, sort, 11, 12, 13, 14);
    }

    private static void copy() {
        in("Promise 28");
        sentence("n numbers of a SHEET, from item i on, come to another one's item j on (as they were): n.", () -> {
            int[][] copies = {{0, 0, 1, 0, 4, 1, 2, 3, 4}, {0, 2, 1, 0, 4, 3, 4, 5, 6}, {0, 5, 1, 3, 1, 11, 12, 13, 6}, {0, 0, 1, 3, 1, 11, 12, 13, 1},
                {0, 6, 1, 4, 0, 11, 12, 13, 14}, {0, 0, 1, 0, 0, 11, 12, 13, 14}, {1, 0, 0, 2, 4, 11, 12, 13, 14}, {0, 3, 1, 1, 2, 11, 4, 5, 14}};
            for (int sort = 0; sort <= 2; sort++) {
                for (int[] c : copies) {
                    ListenerIsTired x = twoRows(sort);
                    due(x, c[4], "copy", c[0], c[1], c[2], c[3], c[4]);
                    items(x, 1, c[5], c[6], c[7], c[8]);
                }
                ListenerIsTired behind = twoRows(sort);
                due(behind, 5, "copy", 0, 0, 0, 1, 5);
                items(behind, 0, 1, 1, 2, 3, 4, 5);
                ListenerIsTired ahead = twoRows(sort);
                due(ahead, 5, "copy", 0, 1, 0, 0, 5);
                items(ahead, 0, 2, 3, 4, 5, 6, 6);
                ListenerIsTired itself = twoRows(sort);
                due(itself, 6, "copy", 0, 0, 0, 0, 6);
                items(itself, 0, 1, 2, 3, 4, 5, 6);
                ListenerIsTired back = twoRows(sort);
                due(back, 4, "copy", 1, 0, 0, 2, 4);
                items(back, 0, 1, 2, 11, 12, 13, 14);
            }
            ListenerIsTired most = with(DOG, 0);
            most.sheet(2, SHORTS, 40);
            most.sheet(3, SHORTS, 40);
            due(most, 40, "copy", 2, 0, 3, 0, 40);
            ListenerIsTired empty = with(DOG, 0);
            empty.sheet(2, SHORTS, 0);
            due(empty, 0, "copy", 2, 0, 2, 0, 0);
        });
        sentence("BAD: no such SHEET; -11; -13: they are of unlike sorts; -12 (also with n below 0).", () -> {
            for (int sheet : new int[] {-1, 4, MIN, MAX}) {
                refused(Valleys::some, BAD, "copy", sheet, 0, 0, 0, 1);
                refused(Valleys::some, BAD, "copy", 0, 0, sheet, 0, 1);
                refused(Valleys::some, BAD, "copy", 3, 0, sheet, 0, -1);
            }
            refused(Valleys::some, NOTHING, "copy", 3, 0, 3, 0, 0);
            refused(Valleys::some, NOTHING, "copy", 0, 0, 3, 0, 0);
            refused(Valleys::some, NOTHING, "copy", 3, 9, 1, 0, -1);
            for (int sheet = 0; sheet <= 2; sheet++) {
                refused(Valleys::some, UNLIKE, "copy", sheet, 0, (sheet + 1) % 3, 0, 0);
                refused(Valleys::some, UNLIKE, "copy", (sheet + 1) % 3, MIN, sheet, MAX, -1);
            }
            int[][] outside = {{0, 1, 6}, {1, 0, 6}, {0, 0, 7}, {5, 0, 2}, {0, 5, 2}, {6, 0, 1}, {0, 6, 1}, {7, 0, 0}, {0, 7, 0}, {-1, 0, 1},
                {0, -1, 1}, {-1, 0, 0}, {0, -1, 0}, {0, 0, -1}, {1, 1, -1}, {6, 6, -1}, {0, 0, MIN}, {0, 0, MAX}, {1, 1, MAX}, {MAX, 0, 1},
                {0, MAX, 1}, {MAX, MAX, MAX}, {MIN, 0, 1}, {0, MIN, 1}, {MIN, MIN, MIN}, {MAX, 0, 0}, {0, MIN, 0}};
            for (int[] o : outside) {
                refused(Valleys::some, OUTSIDE, "copy", 0, o[0], 0, o[1], o[2]);
            }
            Supplier<ListenerIsTired> two = () -> {
                ListenerIsTired x = Valleys.some();
                return row(x, 3, INTS, 1, 2);
            };
            refused(two, OUTSIDE, "copy", 0, 0, 3, 0, 3);
            refused(two, OUTSIDE, "copy", 3, 0, 0, 0, 3);
            refused(two, OUTSIDE, "copy", 0, 0, 3, 1, 2);
            refused(two, OUTSIDE, "copy", 3, 1, 0, 0, 2);
            due(two.get(), 2, "copy", 0, 4, 3, 0, 2);
        });
    }

    private static void people(ListenerIsTired x, int... pairs) {
        due(x, pairs.length / 2, "count", 0);
        for (int i = 0; i < pairs.length; i += 2) {
            due(x, pairs[i], "told", i / 2, KIND);
            due(x, pairs[i + 1], "told", i / 2, NUMBER);
        }
    }

    private static ListenerIsTired rowOf(int sort, int... items) {
        return row(new ListenerIsTired(), 3, sort, items);
    }

    private static void valley() {
        in("Promise 29");
        sentence("PEOPLE by a SHEET that is taken for one of a sort: from one on, two by two (as of person()), n of them (0 .. 5): "
                + "how many came (others are left out).", () -> {
            for (int sort = 0; sort <= 2; sort++) {
                int[] five = {0, 9, 1, 8, 2, 7, 3, 6, 5, 0};
                for (int n = 0; n <= 5; n++) {
                    ListenerIsTired x = rowOf(sort, five);
                    due(x, n, "valley", 3, sort, 0, n);
                    people(x, Arrays.copyOf(five, 2 * n));
                }
                ListenerIsTired last = rowOf(sort, five);
                due(last, 1, "valley", 3, sort, 8, 1);
                people(last, 5, 0);
                ListenerIsTired between = rowOf(sort, 9, 0, 3, 7);
                due(between, 0, "valley", 3, sort, 0, 1);
                due(between, 1, "valley", 3, sort, 1, 1);
                people(between, 0, 3);
            }
            ListenerIsTired some = rowOf(INTS, 5, 9, 6, 0, 0, 10, -1, 0, 0, -1);
            due(some, 1, "valley", 3, INTS, 0, 5);
            people(some, 5, 9);
            due(some, 0, "valley", 3, INTS, 2, 4);
            people(some, 5, 9);
            ListenerIsTired wide = rowOf(INTS, MIN, 0, MAX, 0, 0, MIN, 0, MAX, 65536, 256);
            due(wide, 0, "valley", 3, INTS, 0, 5);
            people(wide);
            ListenerIsTired narrow = rowOf(BYTES, 256, 256 + 9, 0, 10);
            due(narrow, 1, "valley", 3, BYTES, 0, 2);
            people(narrow, 0, 9);
            ListenerIsTired full = rowOf(BYTES, 0, 0, 0, 1, 0, 2, 0, 3, 0, 4);
            due(full, 3, "valley", 3, BYTES, 0, 3);
            due(full, 2, "valley", 3, BYTES, 0, 5);
            due(full, 0, "valley", 3, BYTES, 0, 5);
            people(full, 0, 0, 0, 1, 0, 2, 0, 0, 0, 1);
            due(rowOf(BYTES), 0, "valley", 3, BYTES, 0, 0);
            due(rowOf(BYTES), 0, "valley", 3, BYTES, 99, 0);
        });
        sentence("BAD: no such SHEET, sort, n; -13; -11; -12: what stood ahead came.", () -> {
            for (int none : new int[] {-1, 4, MIN, MAX}) {
                refused(Valleys::some, BAD, "valley", none, INTS, 0, 1);
                refused(Valleys::some, BAD, "valley", none, INTS, 0, 0);
            }
            for (int none : new int[] {-1, 3, MIN, MAX}) {
                refused(Valleys::some, BAD, "valley", 0, none, 0, 1);
                refused(Valleys::some, BAD, "valley", 3, none, 0, 0);
            }
            for (int none : new int[] {-1, 6, MIN, MAX}) {
                refused(Valleys::some, BAD, "valley", 0, INTS, 0, none);
                refused(Valleys::some, BAD, "valley", 3, INTS, 0, none);
            }
            for (int n : new int[] {0, 1, 5}) {
                refused(Valleys::some, UNLIKE, "valley", 0, BYTES, 0, n);
                refused(Valleys::some, UNLIKE, "valley", 1, SHORTS, -1, n);
                refused(Valleys::some, UNLIKE, "valley", 2, INTS, 99, n);
                refused(Valleys::some, NOTHING, "valley", 3, BYTES, 0, n);
                refused(Valleys::some, NOTHING, "valley", 3, INTS, -1, n);
            }
            for (int from : new int[] {-1, -2, 5, 6, 7, 40, MIN, MAX, MAX - 1}) {
                refused(Valleys::some, OUTSIDE, "valley", 0, INTS, from, 1);
                refused(Valleys::some, OUTSIDE, "valley", 0, INTS, from, 5);
            }
            ListenerIsTired x = rowOf(INTS, 0, 1, 9, 9, 2, 3, 4);
            due(x, OUTSIDE, "valley", 3, INTS, 0, 4);
            people(x, 0, 1, 2, 3);
            due(x, OUTSIDE, "valley", 3, INTS, 4, 2);
            people(x, 0, 1, 2, 3, 2, 3);
            due(x, OUTSIDE, "valley", 3, INTS, 6, 1);
            due(x, OUTSIDE, "valley", 3, INTS, 5, 5);
            people(x, 0, 1, 2, 3, 2, 3, 3, 4);
            due(x, OUTSIDE, "valley", 3, INTS, 0, 5);
            people(x, 0, 1, 2, 3, 2, 3, 3, 4, 0, 1);
            due(x, OUTSIDE, "valley", 3, INTS, 0, 5);
            people(x, 0, 1, 2, 3, 2, 3, 3, 4, 0, 1);
        });
    }

    private static void taken() {
        in("Promise 30");
        sentence("One of PEOPLE taken for one of KIND k (0 .. 5), or one under that one (also by others between): the NUMBER.", () -> {
            boolean[][] isUnder = {
                {true, false, false, false, false, false},
                {true, true, false, false, false, false},
                {true, false, true, false, false, false},
                {true, true, false, true, false, false},
                {true, false, true, false, true, false},
                {true, false, false, false, false, true}};
            for (int kind = 0; kind <= 5; kind++) {
                for (int k = 0; k <= 5; k++) {
                    due(with(kind, 0), isUnder[kind][k] ? 0 : UNLIKE, "taken", 0, k);
                    due(with(DOG, 1, DOG, 2, DOG, 3, DOG, 4, kind, 9), isUnder[kind][k] ? 9 : UNLIKE, "taken", 4, k);
                }
            }
            changesNothing(Valleys::some, "taken", 1, TELLER);
        });
        sentence("BAD: k; -11: none such; -13.", () -> {
            for (int k : new int[] {-1, 6, MIN, MAX}) {
                refused(Valleys::some, BAD, "taken", 0, k);
                refused(Valleys::some, BAD, "taken", -1, k);
                refused(Valleys::nobody, BAD, "taken", 0, k);
            }
            for (int one : new int[] {-1, 4, MIN, MAX}) {
                refused(Valleys::some, NOTHING, "taken", one, TELLER);
                refused(Valleys::some, NOTHING, "taken", one, LIAR);
            }
            refused(Valleys::fullOfPeople, NOTHING, "taken", 5, TELLER);
            refused(Valleys::some, UNLIKE, "taken", 0, WIFE);
            refused(Valleys::some, UNLIKE, "taken", 3, LIAR);
            due(Valleys.fullOfPeople(), 7, "taken", 4, LIAR);
        });
    }
}
