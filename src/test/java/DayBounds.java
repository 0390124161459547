/** Sentences about TELLINGS and DAYS that name a boundary: of the second part of 'Terms' and of promises 9 to 13. */
final class DayBounds extends Sentences {
    private DayBounds() {
    }

    static void all() {
        in("Terms 2");
        telling();
        dayOfPeople();
        dayOfSleepers();
        ahead();
        roundAhead();
        tell();
        day();
        run();
        sleeps();
        round();
    }

    /** How TIRED one is who was so TIRED and hears a STORY of one of a KIND, by THE RULE that TEXT 0 is. */
    private static int tiredBy(int kind, int story, int tired) {
        ListenerIsTired x = laid(laid(with(kind, 0, TELLER, 0), STORY, story), TIRED, 0, tired);
        int told = x.tell(0, 1);
        same("told of who heard", told, x.told(1, TIRED));
        return told;
    }

    private static void telling() {
        sentence("A TELLING of one to another one: what the one WEIGHS of the STORY is the load;", () -> {
            int[][] ofKinds = {{TELLER, 21}, {WIFE, 21}, {DEAF, 42}, {AUNT, 21}, {DOG, 0}, {LIAR, -10}};
            for (int[] of : ofKinds) {
                same("KIND " + of[0], 30 + of[1], tiredBy(of[0], 21, 30));
                same("no STORY of KIND " + of[0], 30, tiredBy(of[0], 0, 30));
            }
            same("the greatest load", 99, tiredBy(TELLER, 99, 0));
            same("the least load", 50, tiredBy(LIAR, 99, 99));
        });
        sentence("the other one is so much more TIRED as that one HEARS it (both told ahead; 0 .. 99, else the bound),", () -> {
            same("48 more", 98, tiredBy(TELLER, 48, 50));
            same("49 more", 99, tiredBy(TELLER, 49, 50));
            same("50 more", 99, tiredBy(TELLER, 50, 50));
            same("99 more", 99, tiredBy(TELLER, 99, 99));
            same("0 more", 0, tiredBy(TELLER, 0, 0));
            same("10 less than 11", 1, tiredBy(LIAR, 20, 11));
            same("10 less than 10", 0, tiredBy(LIAR, 20, 10));
            same("10 less than 9", 0, tiredBy(LIAR, 20, 9));
            same("10 less than 0", 0, tiredBy(LIAR, 20, 0));
            ListenerIsTired x = ruled(with(TELLER, 0, TELLER, 0), "0", "story", "heard*9+tired");
            laid(laid(laid(x, STORY, 20), TIRED, 0, 5), HEARD, 0, 1);
            due(x, 31, "tell", 0, 1);
            ListenerIsTired sleepers = ruled(with(TELLER, 0, TELLER, 0, DOG, 0, DOG, 0), "0", "asleep*10", "asleep+1");
            due(sleepers, 0, "tell", 0, 1);
            due(laid(sleepers, ASLEEP, 0, 0, 1, 0), 8, "tell", 0, 1);
            due(laid(sleepers, ASLEEP, 0, 0, 1, 1), 8 + 17, "tell", 0, 1);
        });
        sentence("and HEARD 1 more (99 at most);", () -> {
            int[][] heards = {{0, 1}, {1, 2}, {97, 98}, {98, 99}, {99, 99}};
            for (int[] heard : heards) {
                for (int kind = 0; kind <= 5; kind++) {
                    ListenerIsTired x = laid(with(TELLER, 0, kind, 0), HEARD, 7, heard[0]);
                    call(x, "tell", 0, 1);
                    stand(x, HEARD, 7, heard[1]);
                }
                ListenerIsTired x = laid(laid(with(DOG, 0, DOG, 0), HEARD, 7, heard[0]), EAR, 1);
                call(x, "day");
                stand(x, HEARD, 7, heard[1]);
            }
        });
        sentence("the STORY is 0.", () -> {
            for (int story : new int[] {0, 1, 99}) {
                ListenerIsTired x = laid(with(TELLER, 0, DEAF, 0), STORY, story, 55);
                call(x, "tell", 0, 1);
                stand(x, STORY, 0, 55);
            }
        });
    }

    private static void dayOfPeople() {
        sentence("A DAY: of PEOPLE by numbers (told as all is then):", () -> {
            ListenerIsTired told = laid(laid(with(TELLER, 0, AUNT, 0), EAR, 1), TIRED, 0, 45);
            due(told, 0, "day");
            stand(told, TIRED, 0, 65);
            stand(told, STORY, 0, 0);
            ListenerIsTired tells = laid(laid(with(AUNT, 0, TELLER, 0), EAR, NONE, 0), TIRED, 45);
            due(tells, 0, "day");
            stand(tells, TIRED, 55, 0);
            stand(tells, STORY, 5, 0);
            ListenerIsTired chain = laid(with(TELLER, 0, TELLER, 0, TELLER, 0, TELLER, 0, TELLER, 0), EAR, 1, 2, 3, 4, 0);
            due(ruled(chain, "tired+1", "0", "0"), 0, "day");
            stand(chain, TIRED, 5, 1, 2, 3, 4);
        });
        sentence("who is ASLEEP is 20 less TIRED (0 at least);", () -> {
            ListenerIsTired x = with(TELLER, 0, WIFE, 0, DEAF, 0, AUNT, 0, LIAR, 0);
            laid(laid(laid(laid(x, TIRED, 0, 19, 20, 21, 99), ASLEEP, 1, 1, 1, 1, 1), STORY, 5, 5, 5, 5, 5), EAR, 1, 2, 3, 4, 0);
            due(x, 16, "day");
            stand(x, TIRED, 0, 0, 0, 1, 79);
            stand(x, STORY, 5, 5, 5, 5, 5);
            stand(x, HEARD, 0, 0, 0, 0, 0);
        });
        sentence("else one's STORY is as much more as one DOES (99 at most)", () -> {
            ListenerIsTired x = laid(with(TELLER, 0, TELLER, 0, TELLER, 0, TELLER, 0, DOG, 0), STORY, 88, 89, 90, 99, 5);
            due(x, 0, "day");
            stand(x, STORY, 98, 99, 99, 99, 5);
            ListenerIsTired most = laid(ruled(with(TELLER, 0, TELLER, 0), "99", "0", "0"), STORY, 0, 99);
            due(most, 0, "day");
            stand(most, STORY, 99, 99);
        });
        sentence("and, has one an EAR that isn't ASLEEP, it is told that one.", () -> {
            ListenerIsTired x = laid(laid(with(TELLER, 0, DOG, 0), TIRED, 0, 60), ASLEEP, 0, 1);
            due(x, 2, "day");
            stand(x, STORY, 10, 0);
            x.set(EAR, 0, 1);
            due(x, 0, "day");
            stand(x, STORY, 20, 0);
            stand(x, HEARD, 0, 0);
            stand(x, TIRED, 0, 20);
            due(x, 0, "day");
            stand(x, STORY, 0, 0);
            stand(x, HEARD, 0, 1);
            stand(x, TIRED, 0, 35);
            ListenerIsTired last = laid(with(DOG, 0, DOG, 0, DOG, 0, DOG, 0, TELLER, 0), EAR, NONE, NONE, NONE, NONE, 0);
            due(last, 0, "day");
            stand(last, TIRED, 5, 0, 0, 0, 0);
            ListenerIsTired nothing = laid(with(DOG, 0, TELLER, 0), EAR, 1);
            due(nothing, 0, "day");
            stand(nothing, HEARD, 0, 1);
        });
    }

    private static void dayOfSleepers() {
        sentence("At last, of all: who is TIRED 80 or more is ASLEEP,", () -> {
            ListenerIsTired x = laid(with(DOG, 0, DOG, 0, DOG, 0, DOG, 0, DOG, 0), TIRED, 79, 80, 81, 99, 0);
            due(x, 2 + 4 + 8, "day");
            stand(x, ASLEEP, 0, 1, 1, 1, 0);
            stand(x, TIRED, 79, 80, 81, 99, 0);
            ListenerIsTired told = laid(laid(with(TELLER, 0, TELLER, 0, TELLER, 0), EAR, 1, 2), TIRED, 0, 75, 0);
            due(told, 2, "day");
            stand(told, TIRED, 0, 85, 10);
            stand(told, STORY, 0, 0, 10);
        });
        sentence("who is TIRED below 40 isn't (others stay as they were).", () -> {
            ListenerIsTired x = laid(with(DOG, 0, DOG, 0, DOG, 0, DOG, 0, DOG, 0), TIRED, 59, 60, 40, 79, 99);
            due(laid(x, ASLEEP, 1, 1, 0, 0, 1), 2 + 16, "day");
            stand(x, TIRED, 39, 40, 40, 79, 79);
            stand(x, ASLEEP, 0, 1, 0, 0, 1);
            ListenerIsTired least = laid(laid(with(DOG, 0, DOG, 0), TIRED, 0, 39), ASLEEP, 1, 0);
            due(least, 0, "day");
        });
        sentence("DAY is 1 more.", () -> {
            ListenerIsTired x = new ListenerIsTired();
            call(x, "day");
            due(x, 1, "count", 2);
            x.set(DAY, 0, 998);
            call(x, "day");
            due(x, 999, "told", 0, DAY);
        });
    }

    /** One of a KIND tells a TELLER, DAY is 999. */
    private static ListenerIsTired onLastDay(int kind, String does) {
        ListenerIsTired x = ruled(with(kind, 0, TELLER, 0), does, "0", "0");
        x.set(EAR, 0, 1);
        x.set(DAY, 0, 999);
        return x;
    }

    private static void ahead() {
        sentence("n DAYS (0 .. 40), in thought (there DAY may pass 999):", () -> {
            ListenerIsTired x = ruled(with(TELLER, 0), "day=1038", "0", "0");
            x.set(DAY, 0, 999);
            due(x, 0, "run", 0, 0, 1);
            due(x, 0, "run", 0, 1, 1);
            due(x, 0, "run", 0, 39, 1);
            due(x, 1, "run", 0, 40, 1);
            due(x, 999, "count", 2);
            due(x, STATE, "day");
            ListenerIsTired never = ruled(with(TELLER, 0), "day<999", "0", "0");
            never.set(DAY, 0, 999);
            due(never, 0, "run", 0, 40, 1);
            due(onLastDay(TELLER, "(day=1058)*80"), 60, "sleeps", 1);
            due(onLastDay(TELLER, "(day=1059)*80"), NONE, "sleeps", 1);
            due(onLastDay(TELLER, "day<1000"), 2, "round");
            due(laid(onLastDay(LIAR, "(day=1001)*10"), TIRED, 0, 50), 45, "ears", 3, 2);
            due(laid(onLastDay(LIAR, "(day=1001)*10"), TIRED, 0, 50), 50, "ears", 2, 2);
            due(onLastDay(TELLER, "(day=1008)*10"), 1, "chance", 7, 20, 10, 0);
            due(onLastDay(TELLER, "(day=1009)*10"), 0, "chance", 7, 20, 1, 0);
            due(onLastDay(TELLER, "(day=1038)*10"), 0, "drawn", 7, 39);
            expect("DAY 1038 is the 40th", onLastDay(TELLER, "(day=1038)*10").drawn(7, 40) >= 10);
            ListenerIsTired filmed = onLastDay(TELLER, "(day=1018)*10");
            due(filmed, 20, "film", 0, 1, 20);
            due(filmed, 19, "tells", 0, 0, 0, 0);
            due(filmed, NONE, "tells", 0, 1, 1, 0);
            refused(Valleys::some, BAD, "run", 0, -1, 0);
            refused(Valleys::some, BAD, "run", 0, 41, 0);
            changesNothing(Valleys::some, "run", 0, 40, 0);
        });
        sentence("how TIRED one is; STORY; who are ASLEEP (bits); how TIRED all are, together; HEARD.", () -> {
            ListenerIsTired least = with(DOG, 0, DOG, 0, DOG, 0, DOG, 0, DOG, 0);
            ListenerIsTired most = with(DOG, 0, DOG, 0, DOG, 0, DOG, 0, DOG, 0);
            for (int what : new int[] {TIRED, STORY, HEARD}) {
                laid(most, what, 99, 99, 99, 99, 99);
            }
            ListenerIsTired heard = laid(with(DOG, 0, DOG, 0), EAR, 1);
            due(heard, 0, "run", 1, 0, 4);
            due(heard, 40, "run", 1, 40, 4);
            due(laid(heard, HEARD, 0, 59), 99, "run", 1, 40, 4);
            due(laid(heard, HEARD, 0, 60), 99, "run", 1, 40, 4);
            int[] greatest = {99, 99, 31, 495, 99};
            for (int what = 0; what <= 4; what++) {
                due(least, 0, "run", 4, 0, what);
                due(least, 0, "run", 4, 40, what);
                due(most, greatest[what], "run", 4, 1, what);
                due(most, what == 2 ? 0 : greatest[what], "run", 0, 0, what);
            }
        });
        sentence("SLEEPS (one): behind how many DAYS (0 .. 60) one is ASLEEP first; NONE.", () -> {
            ListenerIsTired x = ruled(with(TELLER, 0, TELLER, 0), "1", "0", "0");
            x.set(EAR, 0, 1);
            int[][] tired = {{79, 1}, {78, 2}, {21, 59}, {20, 60}, {19, NONE}, {0, NONE}, {80, 1}, {99, 1}};
            for (int[] t : tired) {
                x.set(TIRED, 1, t[0]);
                due(x, t[1], "sleeps", 1);
            }
            x.set(TIRED, 1, 0);
            x.set(ASLEEP, 1, 1);
            due(x, 0, "sleeps", 1);
            due(x, NONE, "sleeps", 0);
            due(laid(with(DOG, 0, DOG, 0, DOG, 0, DOG, 0, DOG, 0), TIRED, 0, 0, 0, 0, 80), 1, "sleeps", 4);
        });
    }

    private static void roundAhead() {
        sentence("ROUND: behind how many DAYS (1 .. 60) TIRED, STORY, who is ASLEEP of all are for the first time as they were any time "
                + "ahead, at first, too; NONE.", () -> {
            due(new ListenerIsTired(), 1, "round");
            due(with(DOG, 0), 1, "round");
            ListenerIsTired growing = ruled(with(TELLER, 0), "1", "0", "0");
            int[][] stories = {{99, 1}, {98, 2}, {41, 59}, {40, 60}, {39, NONE}, {0, NONE}};
            for (int[] story : stories) {
                growing.set(STORY, 0, story[0]);
                due(growing, story[1], "round");
            }
            due(laid(with(DOG, 0), TIRED, 80), 5, "round");
            due(laid(with(DOG, 0), TIRED, 79), 1, "round");
            due(laid(laid(with(DOG, 0), TIRED, 30), ASLEEP, 1), 2, "round");
            due(laid(with(DOG, 0, DOG, 0), EAR, 1, 0), 1, "round");
            ListenerIsTired again = ruled(with(TELLER, 0, TELLER, 1), "10*(number=0)", "0", "0");
            due(laid(laid(laid(again, EAR, 1), TIRED, 0, 80), ASLEEP, 0, 1), 6, "round");
            ListenerIsTired liars = ruled(with(DOG, 0, TELLER, 0, LIAR, 1, LIAR, 2), "(number=1)*99+(number=2)*30", "0", "0");
            due(laid(laid(liars, TIRED, 80, 70), EAR, NONE, NONE, 1, 1), 5, "round");
            ListenerIsTired last = laid(with(DOG, 0, DOG, 0, DOG, 0, DOG, 0, TELLER, 0), STORY, 0, 0, 0, 0, 49);
            due(last, 6, "round");
            ListenerIsTired first = laid(with(TELLER, 0, DOG, 0, DOG, 0, DOG, 0, DOG, 0), STORY, 49);
            due(first, 6, "round");
            due(laid(with(DOG, 0, DOG, 0, DOG, 0, DOG, 0, DOG, 0), TIRED, 80), 5, "round");
            due(laid(with(DOG, 0, DOG, 0, DOG, 0, DOG, 0, DOG, 0), TIRED, 0, 0, 0, 0, 99), 5, "round");
        });
    }

    private static void tell() {
        in("Promise 9");
        sentence("A TELLING of one to another one, truly: how TIRED that one is then.", () -> {
            ListenerIsTired x = laid(laid(with(TELLER, 0, DOG, 0, DOG, 0, DOG, 0, TELLER, 0), STORY, 99, 0, 0, 0, 98), TIRED, 1);
            due(x, 99, "tell", 0, 4);
            stand(x, TIRED, 1, 0, 0, 0, 99);
            stand(x, STORY, 0, 0, 0, 0, 98);
            stand(x, ASLEEP, 0, 0, 0, 0, 0);
            due(x, 99, "tell", 4, 0);
            stand(x, HEARD, 1, 0, 0, 0, 1);
            due(x, 0, "tell", 0, 1);
            due(x, 0, "count", 2);
        });
        sentence("BAD: no such two, one and the same;", () -> {
            int[][] none = {{-1, 0}, {0, -1}, {4, 0}, {0, 4}, {0, 0}, {3, 3}, {-1, -1}, {4, 4}, {2, 2}, {MIN, MAX}, {MAX, 0}, {0, MIN}};
            for (int[] pair : none) {
                refused(Valleys::some, BAD, "tell", pair[0], pair[1]);
            }
            refused(Valleys::fullOfPeople, BAD, "tell", 5, 0);
            refused(Valleys::fullOfPeople, BAD, "tell", 4, 5);
        });
        sentence("STATE: one of them is ASLEEP.", () -> {
            refused(Valleys::some, STATE, "tell", 0, 2);
            refused(Valleys::some, STATE, "tell", 2, 0);
            refused(() -> laid(Valleys.some(), ASLEEP, 1, 1, 1, 1), STATE, "tell", 0, 1);
            due(laid(Valleys.some(), ASLEEP, 0, 0, 0, 0), 81, "tell", 0, 2);
            due(laid(with(DOG, 0, DOG, 0, DOG, 0), ASLEEP, 0, 0, 1), 0, "tell", 0, 1);
            due(laid(with(DOG, 0, DOG, 0), TIRED, 99, 99), 99, "tell", 0, 1);
        });
    }

    private static void day() {
        in("Promise 10");
        sentence("A DAY, truly: who are ASLEEP then (bits).", () -> {
            due(new ListenerIsTired(), 0, "day");
            for (int bits = 0; bits <= 31; bits++) {
                ListenerIsTired x = with(DOG, 0, DOG, 0, DOG, 0, DOG, 0, DOG, 0);
                for (int one = 0; one < 5; one++) {
                    x.set(TIRED, one, (bits >> one & 1) * 80);
                }
                due(x, bits, "day");
            }
        });
        sentence("STATE: DAY is 999.", () -> {
            refused(() -> {
                ListenerIsTired x = Valleys.some();
                x.set(DAY, 0, 999);
                return x;
            }, STATE, "day");
            refused(() -> {
                ListenerIsTired x = Valleys.nobody();
                x.set(DAY, 0, 998);
                x.day();
                return x;
            }, STATE, "day");
            ListenerIsTired x = new ListenerIsTired();
            x.set(DAY, 0, 998);
            due(x, 0, "day");
        });
    }

    private static void run() {
        in("Promise 11");
        sentence("n DAYS: how TIRED one is (what 0), STORY (1), who are ASLEEP (2; bits), how TIRED all, together (3), HEARD (4).", () -> {
            ListenerIsTired x = with(DOG, 0, DOG, 0, DOG, 0, DOG, 0, LIAR, 0);
            for (int what : new int[] {TIRED, STORY, HEARD}) {
                laid(x, what, 99, 99, 99, 99, 99);
            }
            laid(x, ASLEEP, 1, 1, 1, 1, 1);
            long[] now = {99, 99, 31, 495, 99};
            long[] then = {39, 99, 0, 195, 99};
            for (int one = 0; one < 5; one += 4) {
                for (int what = 0; what <= 4; what++) {
                    due(x, now[what], "run", one, 0, what);
                    due(x, then[what], "run", one, 5, what);
                    due(x, then[what], "run", one, 40, what);
                }
            }
            for (int what = 0; what <= 4; what++) {
                due(with(TELLER, 0), 0, "run", 0, 0, what);
                changesNothing(Valleys::some, "run", 3, 40, what);
            }
        });
        sentence("BAD.", () -> {
            for (int one : new int[] {-1, 4, MIN, MAX}) {
                refused(Valleys::some, BAD, "run", one, 0, 2);
            }
            for (int n : new int[] {-1, 41, MIN, MAX}) {
                refused(Valleys::some, BAD, "run", 0, n, 0);
            }
            for (int what : new int[] {-1, 5, MIN, MAX}) {
                refused(Valleys::some, BAD, "run", 0, 0, what);
            }
        });
    }

    private static void sleeps() {
        in("Promise 12");
        sentence("SLEEPS. BAD; NONE.", () -> {
            for (int one : new int[] {-1, 4, MIN, MAX}) {
                refused(Valleys::some, BAD, "sleeps", one);
            }
            refused(Valleys::fullOfPeople, BAD, "sleeps", 5);
            due(Valleys.fullOfPeople(), NONE, "sleeps", 4);
            due(Valleys.some(), 0, "sleeps", 2);
            changesNothing(Valleys::some, "sleeps", 3);
        });
    }

    private static void round() {
        in("Promise 13");
        sentence("ROUND. NONE.", () -> {
            ListenerIsTired x = ruled(with(TELLER, 0), "1", "0", "0");
            due(x, NONE, "round");
            x.set(STORY, 0, 99);
            due(x, 1, "round");
            changesNothing(Valleys::some, "round");
            changesNothing(Valleys::fullOfPeople, "round");
        });
    }
}
