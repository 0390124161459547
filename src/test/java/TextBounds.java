import java.util.Locale;

/** Sentences about TEXTS that name a boundary: of the first part of 'Terms' and of promises 6 to 8. */
final class TextBounds extends Sentences {
    /** The greatest int, by NUMBERS of 4 digits at most. */
    private static final String GREATEST = "(9999*9999*21+9999*4790+8416)";
    /** SIGNS behind which an E may go on. */
    private static final String JOINS = "+-*<=";

    private TextBounds() {
    }

    static void all() {
        in("Terms 1");
        tape();
        tokens();
        grammar();
        names();
        values();
        faults();
        open();
        texts();
        feed();
        text();
        force();
    }

    /** A TEXT with a FAULT: THE TAPE is empty then, no TEXT came, THE RULE is what it was. */
    private static void fault(int place, String letters) {
        ListenerIsTired x = with(TELLER, 6);
        same("text of " + letters, -100 - place, read(x, letters));
        due(x, 0, "count", 4);
        due(x, 1, "count", 3);
        due(x, 0, "count", 5);
        due(x, 10, "told", 0, DOES);
    }

    private static void fine(String letters) {
        ListenerIsTired x = with(TELLER, 6);
        same("text of " + letters, 1, read(x, letters));
        due(x, 0, "count", 4);
        due(x, 2, "count", 3);
    }

    /** An E with a FAULT, in the first part and in brackets in the last one. */
    private static void faultOfSum(int place, String sum) {
        fault(5 + place, "does " + sum + OTHER_PARTS);
        fault(24 + place, "does 1;weighs 1;spares (" + sum + ");");
    }

    private static void fineSum(String sum) {
        fine("does " + sum + OTHER_PARTS);
        fine("does 1;weighs 1;spares 1 or " + sum + ";");
    }

    /** What an E is, in each part, of one with NUMBER 6 on DAY 0. */
    private static void value(int want, String sum) {
        same("does " + sum, want, ruled(with(TELLER, 6), sum, "0", "0").told(0, DOES));
        same("weighs " + sum, want, ruled(with(TELLER, 6), "0", sum, "0").told(0, WEIGHS) - 1000);
        same("99 less spares " + sum, 99 - want, ruled(with(TELLER, 6), "0", "0", sum).hears(0, 99) - 1000);
    }

    private static boolean isLetter(int b) {
        return b >= 'a' && b <= 'z';
    }

    private static boolean isDigit(int b) {
        return b >= '0' && b <= '9';
    }

    private static boolean isBlank(int b) {
        return b == 32 || b == 10;
    }

    private static boolean goesOn(int b) {
        return b == ';' || JOINS.indexOf(b) >= 0;
    }

    private static void tape() {
        sentence("A TEXT is read from THE TAPE (160 bytes at most).", () -> {
            String begun = "does 7;weighs 0;spares 0" + "+1".repeat(67);
            same("bytes", 158, begun.length());
            fine(begun + ";");
            fine(begun + " ;");
            fault(160, begun + "+1");
            fault(160, begun + "  ");
            fault(160, begun + "  ;");
            fault(159, begun + " .");
            ListenerIsTired x = with(TELLER, 0);
            same("text of 160 bytes", 1, read(x, begun + " ;"));
            x.force(1);
            due(x, 1032, "hears", 0, 99);
            refused(Valleys::fullTape, FULL, "feed", ';');
        });
    }

    private static void tokens() {
        sentence("TOKENS, each as long as can be:", () -> {
            faultOfSum(0, "tiredstory");
            faultOfSum(6, "tired story");
            faultOfSum(0, "notnot 1");
            fineSum("not not 1");
            fault(0, "doestired" + OTHER_PARTS);
            fine("does1;weighs2;spares3;");
            fine("does(1)and(2)or(not(tired<3));weighs-1;spares-(1)*-1;");
            faultOfSum(2, "12tired");
            faultOfSum(5, "tired12");
            faultOfSum(0, "99999");
            faultOfSum(5, "9999 9");
        });
        sentence("WORDS (a .. z)", () -> {
            for (int b = 0; b <= 255; b++) {
                if (!isBlank(b)) {
                    fault(isLetter(b) ? 5 : goesOn(b) ? 11 : 10, "does tired" + (char) b + OTHER_PARTS);
                }
            }
        });
        sentence("NUMBERS (as many digits as stand there, 4 at most)", () -> {
            for (int b = 0; b <= 255; b++) {
                String three = "does 123" + (char) b + OTHER_PARTS;
                String four = "does 1234" + (char) b + OTHER_PARTS;
                if (isDigit(b)) {
                    fine(three);
                    fault(5, four);
                } else if (!isBlank(b)) {
                    fault(goesOn(b) ? 9 : 8, three);
                    fault(goesOn(b) ? 10 : 9, four);
                }
            }
            value(0, "0");
            value(9, "9");
            value(7, "0007");
            value(99, "9999");
            value(1, "9999-9998");
            value(8, "1234-1226");
            faultOfSum(0, "00007");
            faultOfSum(0, "10000");
            fault(5, "does " + "1".repeat(155));
        });
        sentence("SIGNS ( ) ; + - * < = ;", () -> {
            for (int b = 0; b <= 255; b++) {
                String letters = "does 1" + (char) b + "1" + OTHER_PARTS;
                if (JOINS.indexOf(b) >= 0 || isDigit(b)) {
                    fine(letters);
                } else if (!isBlank(b)) {
                    fault(b == ';' ? 7 : 6, letters);
                }
            }
            fineSum("(1)");
            value(42, "(1+6)*6");
        });
        sentence("blanks (32, 10) may stand between.", () -> {
            for (int b = 0; b <= 255; b++) {
                char between = (char) b;
                if (isBlank(b)) {
                    fine(between + "does" + between + between + "1" + between + ";weighs 1;spares 1;" + between);
                    fault(7, "does 1" + between + "1" + OTHER_PARTS);
                } else {
                    fault(0, between + "does 1" + OTHER_PARTS);
                    fault(25, "does 1;weighs 1;spares 1;" + between);
                }
            }
            fine("does1;weighs1;spares1;");
            fine(" \n \ndoes \n 1 \n\n ;\n\nweighs 1  ;  spares\n1 ; \n");
            fault(3, "\n \n");
        });
    }

    private static void grammar() {
        sentence("TEXT: does E ; weighs E ; spares E ;", () -> {
            fine("does 1 ; weighs 1 ; spares 1 ;");
            String[] tokens = {"does", "1", ";", "weighs", "1", ";", "spares", "1", ";"};
            for (int gone = 0; gone < tokens.length; gone++) {
                StringBuilder letters = new StringBuilder();
                int place = 0;
                for (int i = 0; i < tokens.length; i++) {
                    place = i == gone ? letters.length() : place;
                    letters.append(i == gone ? "" : tokens[i] + " ");
                }
                fault(place, letters.toString());
            }
            fault(7, "does 1;spares 1;weighs 1;");
            fault(0, "weighs 1;does 1;spares 1;");
            fault(7, "does 1;does 1;weighs 1;spares 1;");
            for (String more : new String[] {";", "does", "1", "tired", "(", "or", "-", "x", "12345", "%"}) {
                fault(26, "does 1;weighs 1;spares 1; " + more);
            }
        });
        sentence("E: AND { or AND }.", () -> {
            value(7, "7");
            value(1, "7 or 7");
            value(1, "0 or 0 or 0 or 7");
            value(0, "0 or 0 or 0 or 0");
            value(1, "1 or 1 and 0");
            faultOfSum(0, "or 1");
            faultOfSum(5, "1 or or 1");
            fault(10, "does 1 or " + OTHER_PARTS);
            fine("does 1" + " or 1".repeat(27) + OTHER_PARTS);
        });
        sentence("AND: NOT { and NOT }.", () -> {
            value(1, "7 and 7");
            value(0, "7 and 7 and 7 and 0");
            value(1, "7 and 7 and not 0");
            faultOfSum(0, "and 1");
            faultOfSum(6, "1 and and 1");
            fault(11, "does 1 and " + OTHER_PARTS);
            fine("does 1" + " and 1".repeat(22) + OTHER_PARTS);
        });
        sentence("NOT: not NOT, or SUM, perhaps < or = and a SUM.", () -> {
            value(1, "not 0");
            value(0, "not not 0");
            value(0, "not 0<1");
            value(1, "(not 0)=1");
            fineSum("1<2");
            fineSum("1=2");
            faultOfSum(3, "1<2<3");
            faultOfSum(3, "1=2=3");
            faultOfSum(3, "1<2=3");
            faultOfSum(2, "1<not 0");
            faultOfSum(0, "<1");
            faultOfSum(2, "1<=1");
            fault(9, "does not " + OTHER_PARTS);
            fault(7, "does 1<" + OTHER_PARTS);
        });
        sentence("SUM: TERM { + or - TERM }.", () -> {
            value(5, "9-3-1");
            value(7, "9-3+1");
            faultOfSum(0, "+1");
            faultOfSum(2, "1++1");
            faultOfSum(2, "1+not 0");
            fault(7, "does 1+" + OTHER_PARTS);
            fault(7, "does 1-" + OTHER_PARTS);
            fine("does 1" + "+1".repeat(67) + OTHER_PARTS);
            fine("does 1" + "-1".repeat(67) + OTHER_PARTS);
        });
        sentence("TERM: ONE { * ONE }.", () -> {
            value(24, "2*3*4");
            value(11, "1+2*5");
            value(15, "(1+2)*5");
            faultOfSum(0, "*1");
            faultOfSum(2, "1**1");
            fault(7, "does 1*" + OTHER_PARTS);
            fine("does 1" + "*1".repeat(67) + OTHER_PARTS);
        });
        sentence("ONE: a NUMBER, a NAME, - ONE, ( E ).", () -> {
            value(6, "number");
            value(6, "(number)");
            value(6, "--number");
            value(6, "-(-number)");
            value(1, "(0 or 6)");
            faultOfSum(1, "()");
            faultOfSum(1, "-)");
            faultOfSum(1, "-not 1");
            faultOfSum(1, "1(1)");
            fault(7, "does (1" + OTHER_PARTS);
            fault(6, "does 1)" + OTHER_PARTS);
        });
    }

    private static void names() {
        sentence("NAMES are tired story number day asleep heard; does, weighs, spares, or, and, not are KEYS.", () -> {
            for (String name : new String[] {"tired", "story", "number", "day", "asleep", "heard"}) {
                fineSum(name);
                faultOfSum(0, name + "a");
                faultOfSum(0, "z" + name);
                faultOfSum(0, name.substring(1));
                faultOfSum(0, name.substring(0, name.length() - 1));
                faultOfSum(0, name.toUpperCase(Locale.ROOT));
                fault(0, name + " 1" + OTHER_PARTS);
                fault(7, "does 1 " + name + OTHER_PARTS);
            }
            for (String key : new String[] {"does", "weighs", "spares", "or", "and"}) {
                faultOfSum(0, key);
                faultOfSum(2, "1 " + key + "x 1");
                faultOfSum(2, "1 " + key.substring(1) + " 1");
            }
            String[] words = {"tired", "story", "number", "day", "asleep", "heard", "does", "weighs", "spares", "or", "and", "not"};
            for (String word : words) {
                for (int i = 0; i < word.length(); i++) {
                    StringBuilder other = new StringBuilder(word);
                    other.setCharAt(i, word.charAt(i) == 'z' ? 'q' : 'z');
                    faultOfSum(0, other.toString());
                    faultOfSum(2, "1 " + other + " 1");
                }
            }
            faultOfSum(2, "1 not 1");
            faultOfSum(0, "no 1");
            faultOfSum(0, "nots 1");
            fault(0, "doe 1" + OTHER_PARTS);
            fault(0, "doess 1" + OTHER_PARTS);
            fault(7, "does 1;weigh 1;spares 1;");
            fault(16, "does 1;weighs 1;spare 1;");
        });
    }

    private static void values() {
        sentence("An E is an int (32 bits, wrapping):", () -> {
            value(1, GREATEST + "=2147*1000*1000+483*1000+647");
            value(0, GREATEST + "<0");
            value(1, GREATEST + "+1<0");
            value(0, GREATEST + "<" + GREATEST + "+1");
            value(1, "-" + GREATEST + "-1<0");
            value(0, "-" + GREATEST + "-2<0");
            value(1, "-(-" + GREATEST + "-1)<0");
            value(5, GREATEST + "*2+7");
            value(1, "4096*4096*128<0");
            value(1, "4096*4096*256=0");
            value(7, "4096*4096*256+7");
            value(1, "9999*9999*9999<0");
        });
        sentence("of or, and, not, <, = 1 or 0 (what is not 0 is true).", () -> {
            String[] true1 = {"2 or 0", "0 or 9999", "-1 or 0", "2 and 4", "-1 and 1", "4096*4096*128 and 1", "not 0",
                "not not 9", "3<4", "-1<0", "4=4", "0=0", "5=2+3"};
            for (String sum : true1) {
                value(1, sum);
                value(2, "(" + sum + ")*2");
            }
            String[] false0 = {"0 or 0", "4096*4096*256 or 0", "2 and 0", "0 and 2", "not 9999", "not -1", "not 4096*4096*128",
                "4<4", "5<4", "0<-1", "4=5", "4=-4"};
            for (String sum : false0) {
                value(0, sum);
                value(2, "(" + sum + ")+2");
            }
        });
        sentence("Of one of PEOPLE: tired: how TIRED; story: STORY; number: NUMBER; day: DAY; asleep: how many are; heard: HEARD.",
                () -> {
            String[] names = {"day", "number", "tired", "story", null, "heard"};
            int[] most = {999, 9, 99, 99, 0, 99};
            for (int what : new int[] {DAY, NUMBER, TIRED, STORY, HEARD}) {
                ListenerIsTired x = ruled(with(TELLER, 0, TELLER, 5), names[what] + "=" + most[what], "0", names[what]);
                ruled(x, names[what] + "=0", "0", "0");
                for (int one = 0; one < 2; one++) {
                    x.set(what, one, most[what]);
                    x.force(1);
                    due(x, 1, "told", one, DOES);
                    due(x, 1000 + 99 - Math.min(99, most[what]), "hears", one, 99);
                    x.force(2);
                    due(x, 0, "told", one, DOES);
                    x.set(what, one, 0);
                    due(x, 1, "told", one, DOES);
                }
            }
            ListenerIsTired x = ruled(Valleys.fullOfPeople(), "asleep", "0", "0");
            due(x, 0, "told", 0, DOES);
            for (int one = 0; one < 5; one++) {
                x.set(ASLEEP, one, 1);
                due(x, one + 1, "told", 0, DOES);
            }
        });
        sentence("(0 .. 99, else the bound: laid once, on what comes out.)", () -> {
            value(0, "0");
            value(0, "-1");
            value(0, "0-9999");
            value(99, "99");
            value(98, "98");
            value(99, "100");
            value(99, "9999");
            value(99, GREATEST);
            value(0, GREATEST + "+1");
            value(50, "9999-9949");
            value(7, "-5+12");
            value(7, "3-100+104");
            value(20, "(100-200)*(0-1)-80");
            ListenerIsTired x = ruled(with(TELLER, 0), "day-950", "0", "0");
            x.set(DAY, 0, 999);
            due(x, 49, "told", 0, DOES);
        });
    }

    private static void faults() {
        sentence("FAULT: the place of the first byte of the first TOKEN that can't stand there", () -> {
            fault(0, "; does 1" + OTHER_PARTS);
            fault(9, "does 1   weighs 1 %");
            fault(7, "does 1 1 %" + OTHER_PARTS);
            fault(7, "does 1 % 1" + OTHER_PARTS);
            fault(5, "does weighs;weighs weighs;");
            fault(12, "does 1 \n\n  \n1234" + OTHER_PARTS);
            fault(159, "does 1;weighs 1;spares 1;" + " ".repeat(134) + ";");
        });
        sentence("(the text's size, if it ends too early)", () -> {
            String letters = "does 1 ; weighs ( tired ) ; spares - 2 ;";
            for (int size = 0; size < letters.length(); size++) {
                int place = size;
                if (size > 0 && isLetter(letters.charAt(size - 1)) && isLetter(letters.charAt(size))) {
                    place = letters.lastIndexOf(' ', size) + 1;
                }
                fault(place, letters.substring(0, size));
            }
            fine(letters);
            fault(0, "");
            fault(160, " ".repeat(160));
            fault(160, "does 1;weighs 1;spares 1" + " ".repeat(136));
        });
        sentence("also of a byte that begins none,", () -> {
            for (char none : new char[] {0, 9, 13, 31, 33, '%', ',', '.', '/', ':', '>', '@', 'A', 'Z', '[', '_', '`', '{', 127, 160, 255}) {
                fault(0, String.valueOf(none));
                fault(5, "does " + none + OTHER_PARTS);
                fault(6, "does 1" + none + OTHER_PARTS);
                fault(23, "does 1;weighs 1;spares " + none);
                fault(24, "does 1;weighs 1;spares 1" + none);
            }
        });
        sentence("a WORD that is neither KEY nor NAME,", () -> {
            for (String word : new String[] {"a", "z", "tire", "tiredd", "xor", "nor", "ands", "e", "doesweighs", "q".repeat(100)}) {
                fault(0, word);
                faultOfSum(0, word);
                fault(7, "does 1 " + word + OTHER_PARTS);
                fault(25, "does 1;weighs 1;spares 1;" + word);
            }
        });
        sentence("a NUMBER that is too long,", () -> {
            for (String number : new String[] {"12345", "00000", "99999", "1234567890123456789"}) {
                fault(0, number);
                faultOfSum(0, number);
                faultOfSum(4, "day-" + number);
                fault(7, "does 1 " + number + OTHER_PARTS);
            }
            fineSum("1234");
            fineSum("0000");
        });
    }

    private static void open() {
        sentence("a ( , a not, a - ahead of a ONE while 5 of these are open", () -> {
            for (String sum : new String[] {"(((((1)))))", "not not not not not 1", "-----1", "not(not(-1))", "-(-(-1))",
                "not not ---1", "(not(-(1)))"}) {
                fine("does " + sum + OTHER_PARTS);
                fine("does 1;weighs " + sum + ";spares " + sum + ";");
            }
            fault(10, "does ((((((1))))))" + OTHER_PARTS);
            fault(25, "does not not not not not not 1" + OTHER_PARTS);
            fault(10, "does ------1" + OTHER_PARTS);
            fault(14, "does not(not(-(1)))" + OTHER_PARTS);
            fault(14, "does not(not(--1))" + OTHER_PARTS);
            fault(10, "does (((((not 1)))))" + OTHER_PARTS);
            fault(10, "does (((((-1)))))" + OTHER_PARTS);
            fault(10, "does -----(1)" + OTHER_PARTS);
            fault(25, "does not not not not not (1)" + OTHER_PARTS);
            fault(25, "does not not not not not -1" + OTHER_PARTS);
            fine("does (((((1-1)))))" + OTHER_PARTS);
            fine("does not not not not not 1-1-1-1-1-1-1" + OTHER_PARTS);
        });
        sentence("(a ( till its ) , not and - till what they belong to ends).", () -> {
            for (String sum : new String[] {"(((((1)))))+(((((1)))))", "(1)*(1)*(1)*(1)*(1)*(1)*(1)", "-1+(((((1)))))",
                "-1*(((((1)))))", "-(1)*(((((1)))))", "-----1*-----1--1", "not 1 and (((((1)))))", "not 1 or (((((1)))))",
                "not not 1 and not not not not not 1", "(not 1)+(((((1)))))", "((((1)+(1)+(1))))", "(not 1 and (((1))))"}) {
                fine("does " + sum + OTHER_PARTS);
            }
            fault(15, "does not 1<(((((1)))))" + OTHER_PARTS);
            fault(15, "does not 1+(((((1)))))" + OTHER_PARTS);
            fault(15, "does not 1*(((((1)))))" + OTHER_PARTS);
            fault(16, "does not -1<(((((1)))))" + OTHER_PARTS);
            fault(16, "does not(1)+(((((1)))))" + OTHER_PARTS);
            fault(10, "does -(((((1)))))" + OTHER_PARTS);
            fault(12, "does (1+(((((1))))))" + OTHER_PARTS);
            for (String joins : new String[] {"1-", "1*", "1<", "1=", "1 or ", "1 and "}) {
                fine("does (" + joins + "((((1)))))" + OTHER_PARTS);
                fault(10 + joins.length(), "does (" + joins + "(((((1))))))" + OTHER_PARTS);
                fault(10 + joins.length(), "does -(" + joins + "((((1)))))" + OTHER_PARTS);
            }
            fault(14, "does (1)+((((((1))))))" + OTHER_PARTS);
        });
    }

    private static void texts() {
        sentence("There are 6 TEXTS at most, TEXT 0 with them.", () -> {
            ListenerIsTired x = with(TELLER, 6);
            due(x, 1, "count", 3);
            due(x, 0, "force", 0);
            due(x, BAD, "force", 1);
            for (int i = 1; i <= 5; i++) {
                same("text", i, read(x, "does " + i + OTHER_PARTS));
                due(x, i + 1, "count", 3);
                due(x, i - 1, "force", i);
                due(x, i, "told", 0, DOES);
            }
            same("a seventh", FULL, read(x, "does 6" + OTHER_PARTS));
            due(x, 6, "count", 3);
            due(x, BAD, "force", 6);
            due(x, 5, "force", 0);
            due(x, 10, "told", 0, DOES);
        });
        sentence("TEXT 0, at first THE RULE, is: does 10 ; weighs 0 ; spares number ;", () -> {
            ListenerIsTired x = with(TELLER, 0, TELLER, 9);
            due(x, 0, "count", 5);
            stand(x, DOES, 10, 10);
            stand(x, WEIGHS, 1000, 1000);
            due(x, 1099, "hears", 0, 99);
            due(x, 1001, "hears", 0, 1);
            due(x, 1090, "hears", 1, 99);
            due(x, 1000, "hears", 1, 9);
        });
    }

    private static void feed() {
        in("Promise 6");
        sentence("A byte (0 .. 255) comes behind THE TAPE: how many it has.", () -> {
            ListenerIsTired x = new ListenerIsTired();
            due(x, 1, "feed", 0);
            due(x, 2, "feed", 255);
            for (int i = 3; i <= 160; i++) {
                due(x, i, "feed", 32);
            }
            due(x, 160, "count", 4);
            ListenerIsTired y = with(TELLER, 0);
            same("in the order that they came", 1, read(y, "does 21;weighs 0;spares 12;"));
            y.force(1);
            due(y, 21, "told", 0, DOES);
            due(y, 1008, "hears", 0, 20);
        });
        sentence("BAD; FULL.", () -> {
            for (int letter : new int[] {-1, 256, MIN, MAX}) {
                refused(Valleys::some, BAD, "feed", letter);
                refused(Valleys::fullTape, BAD, "feed", letter);
            }
            refused(Valleys::fullTape, FULL, "feed", 0);
            refused(Valleys::fullTape, FULL, "feed", 255);
        });
    }

    private static void text() {
        in("Promise 7");
        sentence("THE TAPE, which is empty then (by a FAULT, too), is a TEXT: its number;", () -> {
            ListenerIsTired x = with(TELLER, 0);
            for (int i = 1; i <= 4; i++) {
                same("a FAULT", -105, read(x, "does ;"));
                same("a FAULT behind much", -124, read(x, "does 7+8+9;weighs story+"));
                due(x, 0, "count", 4);
                same("its number", i, read(x, "does " + i + OTHER_PARTS));
                due(x, 0, "count", 4);
                due(x, i - 1, "force", i);
                due(x, i, "told", 0, DOES);
                due(x, 1000, "told", 0, WEIGHS);
                due(x, 1, "feed", 'd');
                due(x, -100, "text");
                due(x, 0, "count", 4);
            }
            same("the last that has room", 5, read(x, "does 5" + OTHER_PARTS));
            due(x, 0, "count", 4);
            ListenerIsTired longer = with(TELLER, 0);
            for (int i = 0; i < 2; i++) {
                same("a long FAULT", -260, read(longer, "does 9" + "+9".repeat(68) + ";weighs 9;spares 9"));
                due(longer, 0, "count", 4);
            }
            same("its number", 1, read(longer, "does 7" + OTHER_PARTS));
            longer.force(1);
            due(longer, 7, "told", 0, DOES);
        });
        sentence("-100 less the place of its FAULT.", () -> {
            due(new ListenerIsTired(), -100, "text");
            fault(0, "%");
            fault(1, "\n%");
            fault(159, " ".repeat(159) + "%");
            fault(160, " ".repeat(160));
        });
        sentence("FULL (ahead of all): no TEXT more has room (THE TAPE stays).", () -> {
            refused(Valleys::fullOfTexts, FULL, "text");
            ListenerIsTired x = Valleys.fullOfTexts();
            int size = x.count(4);
            due(x, FULL, "text");
            due(x, size, "count", 4);
            due(x, size + 1, "feed", '%');
            due(x, FULL, "text");
            due(x, size + 1, "count", 4);
            due(x, 6, "count", 3);
            ListenerIsTired empty = with(TELLER, 0);
            for (int i = 1; i <= 5; i++) {
                read(empty, "does " + i + OTHER_PARTS);
            }
            due(empty, 0, "count", 4);
            due(empty, FULL, "text");
        });
    }

    private static void force() {
        in("Promise 8");
        sentence("A TEXT is THE RULE: which was.", () -> {
            ListenerIsTired x = Valleys.fullOfTexts();
            int[][] forced = {{0, 0, 10}, {5, 0, 5}, {5, 5, 5}, {0, 5, 10}, {1, 0, 1}};
            for (int[] f : forced) {
                due(x, f[1], "force", f[0]);
                due(x, f[0], "count", 5);
                due(x, f[2], "told", 0, DOES);
            }
        });
        sentence("BAD.", () -> {
            for (int text : new int[] {-1, 3, 5, 6, MIN, MAX}) {
                refused(Valleys::some, BAD, "force", text);
            }
            refused(Valleys::fullOfTexts, BAD, "force", 6);
            due(Valleys.some(), 2, "force", 2);
            due(Valleys.fullOfTexts(), 0, "force", 5);
        });
    }
}
