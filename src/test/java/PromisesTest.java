/** Promise by promise: ordinary inputs, the edges that the document names, wrong inputs that change nothing. */
public final class PromisesTest {
    private static final int TELLER = 0, WIFE = 1, DEAF = 2, AUNT = 3, DOG = 4, LIAR = 5;
    private static final int MIN = Integer.MIN_VALUE, MAX = Integer.MAX_VALUE;
    private static final long NO = -4611686018427387904L;
    private static int right = 0;
    private static int wrong = 0;
    private static int promise = 0;

    private static void due(String call, long got, long want) {
        if (got == want) {
            right++;
            return;
        }
        wrong++;
        System.out.println("promise " + promise + ": " + call + " answered " + got + ", due is " + want);
    }

    public static void main(String[] args) {
        promise = 1; newObject();
        promise = 2; set();
        promise = 3; person();
        promise = 4; toldDoes(); toldWeighs();
        promise = 5; hears();
        promise = 6; feed();
        promise = 7; textRead(); textFaults(); textWithoutOnes(); textBehindFault(); textBehindEnd(); textOpen(); textValues(); textFull();
        promise = 8; force();
        promise = 9; tell();
        promise = 10; day(); daySleep(); dayOrder();
        promise = 11; run();
        promise = 12; sleeps();
        promise = 13; round();
        promise = 14; ears();
        promise = 15; spread();
        promise = 16; aunt();
        promise = 17; bears();
        promise = 18; mean();
        promise = 19; tells(); tellsRefused();
        promise = 20; film();
        promise = 21; drawn();
        promise = 22; chance();
        promise = 23; image();
        promise = 24; back();
        promise = 25; count();
        promise = 26; sheet();
        promise = 27; cell();
        promise = 28; copy();
        promise = 29; valley();
        promise = 30; taken();
        System.out.println("PromisesTest: " + right + " answers right, " + wrong + " wrong");
        if (wrong != 0) {
            System.exit(1);
        }
    }

    /** PEOPLE by pairs of KIND and NUMBER. */
    private static ListenerIsTired with(int... pairs) {
        ListenerIsTired x = new ListenerIsTired();
        for (int i = 0; i < pairs.length; i += 2) {
            x.person(pairs[i], pairs[i + 1]);
        }
        return x;
    }

    private static int read(ListenerIsTired x, String letters) {
        for (int i = 0; i < letters.length(); i++) {
            x.feed(letters.charAt(i));
        }
        return x.text();
    }

    private static ListenerIsTired ruled(ListenerIsTired x, String letters) {
        int text = read(x, letters);
        due("text of " + letters, text, x.count(3) - 1);
        x.force(text);
        return x;
    }

    /** NUMBER, TIRED, STORY, EAR, HEARD, ASLEEP of one as they are due. */
    private static void is(ListenerIsTired x, int one, int... want) {
        for (int i = 0; i < want.length; i++) {
            due("told(" + one + ", " + (i + 1) + ")", x.told(one, i + 1), want[i]);
        }
    }

    private static void row(ListenerIsTired x, int sheet, int... items) {
        x.sheet(sheet, 2, items.length);
        for (int i = 0; i < items.length; i++) {
            x.cell(sheet, i, items[i]);
        }
    }

    private static void newObject() {
        ListenerIsTired x = new ListenerIsTired();
        int[] counts = {0, 0, 0, 1, 0, 0};
        for (int i = 0; i < counts.length; i++) {
            due("count(" + i + ")", x.count(i), counts[i]);
        }
        due("told(0, 1)", x.told(0, 1), -1000);
        due("back", x.back(), -3);
        for (int i = 0; i < 4; i++) {
            due("cell", x.cell(i, 0, 0), -11);
        }
    }

    private static void set() {
        ListenerIsTired x = with(TELLER, 3, WIFE, 4);
        int[] most = {999, 9, 99, 99, 1, 99, 1};
        for (int what = 0; what <= 6; what++) {
            int was = x.told(0, what);
            due("set most " + what, x.set(what, 0, most[what]), was);
            due("told", x.told(0, what), most[what]);
            due("set above " + what, x.set(what, 0, most[what] + 1), -1000);
            due("set MIN " + what, x.set(what, 0, MIN), -1000);
            due("set MAX " + what, x.set(what, 0, MAX), -1000);
            due("set below " + what, x.set(what, 0, what == 4 ? -2 : -1), -1000);
            due("unchanged", x.told(0, what), most[what]);
            due("set least " + what, x.set(what, 0, what == 4 ? -1 : 0), most[what]);
            due("told", x.told(0, what), what == 4 ? -1 : 0);
        }
        is(x, 1, 4, 0, 0, -1, 0, 0);
        due("ear of oneself", x.set(4, 0, 0), -1000);
        due("ear of 1 to 0", x.set(4, 1, 0), -1);
        due("ear of none such", x.set(4, 1, 2), -1000);
        due("day, of does not matter", x.set(0, 77, 5), 0);
        due("day, of does not matter", x.set(0, MIN, 6), 5);
        for (int what = 1; what <= 6; what++) {
            due("set of none such", x.set(what, 2, 0), -1000);
            due("set of -1", x.set(what, -1, 0), -1000);
        }
        due("set(7)", x.set(7, 0, 0), -1000);
        due("set(-1)", x.set(-1, 0, 0), -1000);
        is(x, 0, 0, 0, 0, -1, 0, 0);
        is(x, 1, 4, 0, 0, 0, 0, 0);
        int[] one = {7, 8, 9, 1, 1, 0};
        for (int what = 1; what <= 5; what++) {
            x.set(what, 0, one[what - 1]);
            int[] sofar = {what > 0 ? 7 : 0, what > 1 ? 8 : 0, what > 2 ? 9 : 0, what > 3 ? 1 : -1, what > 4 ? 1 : 0, 0};
            is(x, 0, sofar);
        }
    }

    private static void person() {
        ListenerIsTired x = new ListenerIsTired();
        due("kind 6", x.person(6, 0), -2);
        due("kind -1", x.person(-1, 0), -2);
        due("number 10", x.person(0, 10), -2);
        due("number -1", x.person(0, -1), -2);
        due("nobody came", x.count(0), 0);
        for (int i = 0; i < 5; i++) {
            due("person", x.person(5 - i, 9 - i), i);
            is(x, i, 9 - i, 0, 0, -1, 0, 0, 5 - i);
        }
        due("BAD ahead of FULL", x.person(6, 0), -2);
        due("BAD ahead of FULL", x.person(0, 10), -2);
        due("FULL", x.person(0, 0), -4);
        due("five", x.count(0), 5);
        due("kind 0", with(TELLER, 0).told(0, 7), 0);
    }

    private static void toldDoes() {
        int[] want = {21, 10, 25, 10, 0, 21};
        for (int kind = 0; kind < 6; kind++) {
            ListenerIsTired x = ruled(with(kind, 4), "does 21;weighs 7;spares 3;");
            due("does of kind " + kind, x.told(0, 8), want[kind]);
        }
        ListenerIsTired x = with(AUNT, 0, DEAF, 9);
        x.set(2, 0, 49);
        due("an aunt of 49", x.told(0, 8), 5);
        x.set(2, 0, 50);
        due("an aunt of 50", x.told(0, 8), 0);
        ruled(x, "does 95;weighs 0;spares 0;");
        due("deaf, more than 99", x.told(1, 8), 99);
        ruled(x, "does 9999;weighs 0;spares 0;");
        due("deaf, 99", x.told(1, 8), 99);
        ruled(x, "does -3;weighs 0;spares 0;");
        due("deaf, bound ahead of what is more", x.told(1, 8), 9);
        x.set(1, 1, 0);
        due("deaf, nothing", x.told(1, 8), 0);
        due("what 10", x.told(0, 10), -1000);
        due("what -1", x.told(0, -1), -1000);
        due("of 2", x.told(2, 1), -1000);
        due("of -1", x.told(-1, 8), -1000);
        due("day of anyone", x.told(-1, 0), 0);
    }

    private static void toldWeighs() {
        int[] want = {18, 11, 36, 7, 0, -5};
        int[] most = {99, 99, 99, 95, 0, -49};
        for (int kind = 0; kind < 6; kind++) {
            ListenerIsTired x = ruled(with(kind, 4), "does 21;weighs 7;spares 3;");
            x.set(3, 0, 11);
            due("weighs of kind " + kind, x.told(0, 9), 1000 + want[kind]);
            x.set(3, 0, 99);
            due("most weight of kind " + kind, x.told(0, 9), 1000 + most[kind]);
        }
        ListenerIsTired x = with(AUNT, 4);
        x.set(3, 0, 3);
        due("an aunt's small story", x.told(0, 9), 1000);
        x.set(3, 0, 5);
        due("an aunt's story", x.told(0, 9), 1001);
    }

    private static void hears() {
        int[][] loads = {{20, 17, 21, 0, 42, 10, 17}, {2, 0, 4, 0, 8, 1, 0}, {0, 0, 0, 0, 0, 0, 0}, {1, 0, 4, 0, 8, 0, 0},
            {-7, -7, -7, -7, -7, -7, -7}, {-99, -99, -99, -99, -99, -99, -99}, {99, 96, 99, 0, 99, 49, 96}};
        for (int kind = 0; kind < 6; kind++) {
            ListenerIsTired x = ruled(with(kind, 4), "does 21;weighs 7;spares 3;");
            for (int[] load : loads) {
                due("kind " + kind + " hears " + load[0], x.hears(0, load[0]), 1000 + load[1 + kind]);
            }
            due("100", x.hears(0, 100), -2);
            due("-100", x.hears(0, -100), -2);
            due("none such", x.hears(1, 0), -2);
            due("-1", x.hears(-1, 0), -2);
            is(x, 0, 4, 0, 0, -1, 0, 0);
        }
        ListenerIsTired x = with(AUNT, 4);
        x.set(3, 0, 1);
        due("an aunt with a story", x.hears(0, 20), 1020);
    }

    private static void feed() {
        ListenerIsTired x = new ListenerIsTired();
        due("0", x.feed(0), 1);
        due("255", x.feed(255), 2);
        due("-1", x.feed(-1), -2);
        due("256", x.feed(256), -2);
        for (int i = 3; i <= 160; i++) {
            due("feed", x.feed(32), i);
        }
        due("FULL", x.feed(32), -4);
        due("BAD ahead of FULL", x.feed(256), -2);
        due("160", x.count(4), 160);
        due("a FAULT empties it", x.text(), -100);
        due("empty", x.count(4), 0);
        due("feed", x.feed(1), 1);
    }

    private static void textRead() {
        ListenerIsTired x = with(TELLER, 6);
        due("text", read(x, "does 12 ; weighs 3 ; spares number ;"), 1);
        due("THE TAPE is empty", x.count(4), 0);
        due("THE RULE stays", x.count(5), 0);
        due("no blanks", read(x, "does1;weighs2;spares3;"), 2);
        due("blanks around", read(x, "\n does\n\n1 ; weighs 2;spares 3 ; \n"), 3);
        x.force(2);
        due("does", x.told(0, 8), 1);
        due("weighs", x.told(0, 9), 1002);
        due("spares", x.hears(0, 10), 1007);
        StringBuilder longest = new StringBuilder("does 7;weighs 0;spares 0");
        while (longest.length() < 157) {
            longest.append("+1");
        }
        while (longest.length() < 159) {
            longest.append(' ');
        }
        due("160 bytes", read(x, longest.append(';').toString()), 4);
        x.force(4);
        due("spares much", x.hears(0, 99), 1032);
    }

    private static void fault(String letters, int place) {
        ListenerIsTired x = with(TELLER, 6);
        due("fault of " + letters, read(x, letters), -100 - place);
        due("THE TAPE is empty by " + letters, x.count(4), 0);
        due("no TEXT by " + letters, x.count(3), 1);
    }

    private static void textFaults() {
        String tail = ";weighs 0;spares 0;";
        fault("", 0);
        fault("  ", 2);
        fault("does", 4);
        fault("does ", 5);
        fault("does 1", 6);
        fault("does 1;", 7);
        fault("does 1;weighs 1;spares 1", 24);
        fault("does 1;weighs 1;spares 1;;", 25);
        fault("does 1;weighs 1;spares 1; does", 26);
        fault("weighs 1;does 1;spares 1;", 0);
        fault("does 1;spares 1;weighs 1;", 7);
        fault("doe 1" + tail, 0);
        fault("doess 1" + tail, 0);
        fault("Does 1" + tail, 0);
        fault("does does" + tail, 5);
        fault("does tires" + tail, 5);
        fault("does dired" + tail, 5);
        fault("does tiredz" + tail, 5);
        fault("does ztired" + tail, 5);
        fault("does atired" + tail, 5);
        fault("does tire" + tail, 5);
        fault("does 1 1" + tail, 7);
        fault("does tired story" + tail, 11);
        fault("does 12345" + tail, 5);
        fault("does 00001" + tail, 5);
        fault("does 1+12345678901234567890" + tail, 7);
        fault("does 1 +" + tail, 8);
        fault("does +1" + tail, 5);
        fault("does 1 ** 2" + tail, 8);
        fault("does ()" + tail, 6);
        fault("does (1" + tail, 7);
        fault("does 1)" + tail, 6);
        fault("does 1<2<3" + tail, 8);
        fault("does 1=2<3" + tail, 8);
        fault("does 1+not 2" + tail, 7);
        fault("does -not 2" + tail, 6);
        fault("does 1<not 2" + tail, 7);
        fault("does 1 not 2" + tail, 7);
        fault("does or" + tail, 5);
        fault("does 1 and and" + tail, 11);
        fault("does 1\t" + tail, 6);
        fault("does 1\r" + tail, 6);
        fault("does 1/2" + tail, 6);
        fault("does \u00e9" + tail, 5);
        fault("does 1 > 0" + tail, 7);
        fault("does day %", 9);
        fault("does ;weighs 0;spares 0;", 5);
        fault("does 1;weighs ;spares 0;", 14);
        fault("does 1;weighs 1;spares ;", 23);
        fault("does 1;weighs 1;spares _", 23);
    }

    private static void textWithoutOnes() {
        String tail = ";weighs 0;spares 0;";
        String[] unended = {"1 or ", "1 and ", "not ", "not not ", "1<", "1=", "1+", "1-", "1*", "-", "--", "1 or not ", "1<-", "2*-"};
        for (String sum : unended) {
            fault("does " + sum + tail, 5 + sum.length());
            fault("does (" + sum + ")" + tail, 6 + sum.length());
            fault("does " + sum, 5 + sum.length());
            fault("does 0;weighs 0;spares " + sum + ";", 23 + sum.length());
            fault("does " + sum + "or 1" + tail, 5 + sum.length());
            fault("does " + sum + "* 1" + tail, 5 + sum.length());
            fault("does " + sum + "< 1" + tail, 5 + sum.length());
        }
        for (String more : new String[] {"$", "x", "12345", "12", "tired", "(", ")", "-", "not", "does", "or", ";", "\t"}) {
            fault("does 1;weighs 1;spares 1;" + more, 25);
            fault("does 1;weighs 1;spares 1; \n " + more + " ", 28);
        }
        fault("does 1;weighs 1;spares 1", 24);
        fault("does 1;weighs 1;spares 1 \n", 26);
    }

    /** Bytes that THE TAPE had before are none of its bytes now. */
    private static void textBehindEnd() {
        String[][] pairs = {{"tired", "x"}, {"tire", "d"}, {"1234", "5"}, {"12", "x"}, {"1", ";"}, {"story+", "1;"}};
        for (String[] pair : pairs) {
            ListenerIsTired x = with(TELLER, 6);
            String letters = "does 1;weighs 1;spares " + pair[0];
            int place = pair[0].equals("tire") ? 23 : letters.length();
            read(x, letters + pair[1]);
            due("an end behind " + pair[0], read(x, letters), -100 - place);
        }
        for (String last : new String[] {"tired", "1234", "day", "1+", " ", "("}) {
            ListenerIsTired x = with(TELLER, 6);
            StringBuilder letters = new StringBuilder("does 1;weighs 1;spares ");
            while (letters.length() < 160 - last.length()) {
                letters.append(' ');
            }
            due("160 bytes, the last are " + last, read(x, letters.append(last).toString()), -260);
        }
    }

    /** What a long TEXT with a FAULT left behind takes no room from the next one and tells nothing in it. */
    private static void textBehindFault() {
        ListenerIsTired x = with(TELLER, 6);
        StringBuilder unended = new StringBuilder("does 9");
        while (unended.length() < 126) {
            unended.append("+9");
        }
        unended.append(";weighs 9;spares 9");
        for (int i = 0; i < 2; i++) {
            due("spares unended", read(x, unended.toString()), -100 - unended.length());
        }
        due("a good one", read(x, "does 1+2+3+4+5+6+7+8+9+10;weighs 1+2+3+4+5+6+7;spares 1+2+3;"), 1);
        x.force(1);
        due("does", x.told(0, 8), 55);
        due("weighs", x.told(0, 9), 1028);
        due("spares", x.hears(0, 50), 1044);
        due("a FAULT in the next", read(x, "does 4;weighs 4;spares"), -122);
        due("TEXT 1 stays", x.told(0, 8), 55);
        due("another good one", read(x, "does 2;weighs 3;spares 4;"), 2);
        x.force(2);
        due("does", x.told(0, 8), 2);
        due("weighs", x.told(0, 9), 1003);
        due("spares", x.hears(0, 50), 1046);
    }

    private static void textOpen() {
        String tail = ";weighs 0;spares 0;";
        String[] fine = {"(((((1)))))", "not not not not not 1", "-----1", "not(not(-1))", "(1)+(((((1)))))", "not 1 and ((((1))))",
            "not 1 or (((((1)))))", "-1-(((((1)))))", "----(1)", "(-(-(1)))*-----1", "not 1 < ((((1))))", "(not 1)=(((((1)))))"};
        for (String sum : fine) {
            ListenerIsTired x = new ListenerIsTired();
            due(sum, read(x, "does " + sum + tail), 1);
        }
        fault("does ((((((1))))))" + tail, 10);
        fault("does not not not not not not 1" + tail, 25);
        fault("does ------1" + tail, 10);
        fault("does not(not(--1))" + tail, 14);
        fault("does not 1 < (((((1)))))" + tail, 17);
        fault("does -----(1)" + tail, 10);
        fault("does (((((not 1)))))" + tail, 10);
        fault("does (((((-1)))))" + tail, 10);
        fault("does 1 - ------1" + tail, 14);
        fault("does not (((((1)))))" + tail, 13);
    }

    private static void value(String sum, int want) {
        ListenerIsTired x = with(TELLER, 6, DOG, 0, DOG, 1);
        x.set(0, 0, 950);
        x.set(2, 0, 41);
        x.set(3, 0, 17);
        x.set(5, 0, 5);
        x.set(6, 1, 1);
        x.set(6, 2, 1);
        ruled(x, "does " + sum + ";weighs 0;spares 0;");
        due("value of " + sum, x.told(0, 8), want);
    }

    private static void textValues() {
        value("tired", 41);
        value("story", 17);
        value("number", 6);
        value("day", 99);
        value("day-900", 50);
        value("asleep", 2);
        value("heard", 5);
        value("0-5", 0);
        value("-5", 0);
        value("100", 99);
        value("9999", 99);
        value("0007", 7);
        value("-5+20", 15);
        value("9-3-2", 4);
        value("9-(3-2)", 8);
        value("2+3*4", 14);
        value("(2+3)*4", 20);
        value("-2*-3", 6);
        value("100-9000+8910", 10);
        value("1<2", 1);
        value("2<2", 0);
        value("2<1", 0);
        value("2=2", 1);
        value("2=3", 0);
        value("1+1=2", 1);
        value("not 5", 0);
        value("not 0", 1);
        value("not 1<0", 1);
        value("not not 7", 1);
        value("5 and 7", 1);
        value("1 and 7", 1);
        value("7 and 1", 1);
        value("0 and 7", 0);
        value("1 or 0", 1);
        value("5 and 0", 0);
        value("0 or 7", 1);
        value("0 or 0", 0);
        value("1 or 1 and 0", 1);
        value("0 and 1 or 1", 1);
        value("(1 or 1) and 0", 0);
        value("7", 7);
        value("(tired<50)*3+1", 4);
        value("9999*9999*9999*9999=9999*9999*(9999*9999)", 1);
        value("9999*9999*22<0", 1);
        value("9999*9999*42<0", 1);
        value("9999*9999*43=417*9999+3164", 1);
    }

    private static void textFull() {
        ListenerIsTired x = with(TELLER, 6);
        for (int i = 1; i <= 5; i++) {
            due("text", read(x, "does " + i + ";weighs 0;spares 0;"), i);
        }
        due("FULL ahead of a FAULT", x.text(), -4);
        x.feed('d');
        due("FULL", x.text(), -4);
        due("THE TAPE stays", x.count(4), 1);
        due("6 TEXTS", x.count(3), 6);
        for (int i = 1; i <= 5; i++) {
            x.force(i);
            due("does by TEXT " + i, x.told(0, 8), i);
        }
    }

    private static void force() {
        ListenerIsTired x = with(TELLER, 6);
        due("no TEXT 1", x.force(1), -2);
        due("-1", x.force(-1), -2);
        read(x, "does 4;weighs 0;spares 0;");
        due("1", x.force(1), 0);
        due("told", x.told(0, 8), 4);
        due("1 again", x.force(1), 1);
        due("2", x.force(2), -2);
        due("stays", x.count(5), 1);
        due("0", x.force(0), 1);
        due("told", x.told(0, 8), 10);
    }

    private static void tell() {
        ListenerIsTired x = with(TELLER, 3, WIFE, 4, LIAR, 0);
        x.set(3, 0, 30);
        x.set(3, 1, 2);
        due("0 to 1", x.tell(0, 1), 30);
        is(x, 0, 3, 0, 0, -1, 0, 0);
        is(x, 1, 4, 30, 2, -1, 1, 0);
        x.set(3, 2, 51);
        due("a liar", x.tell(2, 1), 5);
        x.set(3, 2, 51);
        due("0 at least", x.tell(2, 1), 0);
        x.set(3, 0, 99);
        x.set(2, 1, 98);
        x.set(5, 1, 99);
        due("99 at most", x.tell(0, 1), 99);
        is(x, 1, 4, 99, 2, -1, 99, 0);
        due("nobody fell asleep", x.count(1), 0);
        due("one and the same", x.tell(1, 1), -2);
        due("none such", x.tell(3, 1), -2);
        due("none such", x.tell(1, 3), -2);
        due("-1", x.tell(-1, 0), -2);
        due("-1", x.tell(0, -1), -2);
        x.set(6, 1, 1);
        x.set(3, 0, 7);
        due("to one ASLEEP", x.tell(0, 1), -3);
        due("by one ASLEEP", x.tell(1, 0), -3);
        due("BAD ahead of STATE", x.tell(1, 1), -2);
        is(x, 0, 3, 0, 7, -1, 0, 0);
        is(x, 1, 4, 99, 2, -1, 99, 1);
        ListenerIsTired y = ruled(with(TELLER, 0, TELLER, 0), "does 0;weighs story;spares heard*10+tired;");
        y.set(3, 0, 10);
        y.set(2, 1, 5);
        y.set(5, 1, 1);
        due("told ahead: 20 less 15", y.tell(0, 1), 10);
        due("day stays", y.count(2), 0);
    }

    private static void day() {
        ListenerIsTired x = with(TELLER, 3, WIFE, 4);
        x.set(4, 0, 1);
        x.set(4, 1, 0);
        due("day", x.day(), 0);
        is(x, 0, 3, 2, 0, 1, 1, 0);
        is(x, 1, 4, 10, 0, 0, 1, 0);
        due("DAY", x.count(2), 1);
        x.set(4, 0, -1);
        due("day", x.day(), 0);
        is(x, 0, 3, 4, 10, -1, 2, 0);
        x.set(3, 0, 95);
        due("day", x.day(), 0);
        due("STORY 99 at most", x.told(0, 3), 99);
        x.set(0, 0, 998);
        due("day 998", x.day(), 0);
        due("STATE", x.day(), -3);
        due("DAY 999", x.count(2), 999);
        is(x, 0, 3, 8, 99, -1, 4, 0);
        due("nobody's day", new ListenerIsTired().day(), 0);
    }

    private static void daySleep() {
        ListenerIsTired x = with(DOG, 0, DOG, 0, DOG, 0, DOG, 0, DOG, 0);
        int[] tired = {80, 79, 60, 59, 5};
        for (int i = 0; i < 5; i++) {
            x.set(2, i, tired[i]);
            x.set(6, i, i < 2 ? 0 : 1);
        }
        due("80 falls asleep, 79 not; 40 sleeps on, 39 wakes, 0 wakes", x.day(), 1 + 4);
        due("awake a day ahead", x.told(0, 2), 80);
        due("20 less", x.told(2, 2), 40);
        due("0 at least", x.told(4, 2), 0);
        due("day", x.day(), 1);
        due("60", x.told(0, 2), 60);
        due("day", x.day(), 1);
        due("day", x.day(), 0);
        is(x, 0, 0, 20, 0, -1, 0, 0);
        ListenerIsTired y = with(TELLER, 0, TELLER, 0);
        y.set(4, 0, 1);
        y.set(4, 1, 0);
        y.set(6, 1, 1);
        y.set(2, 1, 90);
        y.set(3, 1, 50);
        due("an ear asleep", y.day(), 2);
        is(y, 0, 0, 0, 10, 1, 0, 0);
        is(y, 1, 0, 70, 50, 0, 0, 1);
    }

    private static void dayOrder() {
        ListenerIsTired x = with(TELLER, 0, AUNT, 0);
        x.set(4, 0, 1);
        x.set(2, 1, 45);
        x.day();
        is(x, 1, 0, 65, 0, -1, 1, 0);
        ListenerIsTired y = with(AUNT, 0, TELLER, 0);
        y.set(4, 1, 0);
        y.set(2, 0, 45);
        y.day();
        is(y, 0, 0, 55, 5, -1, 1, 0);
        ListenerIsTired z = ruled(with(TELLER, 0, TELLER, 0, TELLER, 0), "does asleep*10+day;weighs 0;spares 0;");
        z.set(2, 0, 85);
        z.set(6, 1, 1);
        z.set(2, 1, 10);
        z.set(0, 0, 7);
        due("day", z.day(), 1);
        due("as many asleep as the DAY began with", z.told(0, 3), 17);
        due("as many asleep as the DAY began with", z.told(2, 3), 17);
        due("day", z.day(), 1);
        due("one asleep, DAY 8", z.told(2, 3), 35);
    }

    private static void run() {
        ListenerIsTired x = with(TELLER, 3, WIFE, 4, DEAF, 2);
        for (int i = 0; i < 3; i++) {
            x.set(4, i, (i + 1) % 3);
            x.set(2, i, 40 + 15 * i);
        }
        int[][] ahead = new int[41][];
        for (int n = 0; n <= 40; n++) {
            ahead[n] = new int[] {x.run(1, n, 0), x.run(1, n, 1), x.run(1, n, 2), x.run(1, n, 3), x.run(1, n, 4)};
        }
        int asleep = 0;
        for (int n = 0; n <= 40; n++) {
            int together = x.told(0, 2) + x.told(1, 2) + x.told(2, 2);
            int[] truly = {x.told(1, 2), x.told(1, 3), asleep, together, x.told(1, 5)};
            for (int what = 0; what < 5; what++) {
                due("run(1, " + n + ", " + what + ")", ahead[n][what], truly[what]);
            }
            asleep = x.day();
        }
        due("41", x.run(0, 41, 0), -2);
        due("-1", x.run(0, -1, 0), -2);
        due("none such", x.run(3, 0, 0), -2);
        due("-1", x.run(-1, 0, 3), -2);
        due("what 5", x.run(0, 0, 5), -2);
        due("what -1", x.run(0, 0, -1), -2);
        due("in thought", x.count(2), 41);
        ListenerIsTired y = ruled(with(TELLER, 0), "does (day=1000)*7;weighs 0;spares 0;");
        y.set(0, 0, 999);
        due("DAY 1000 not yet", y.run(0, 1, 1), 0);
        due("DAY 1000 in thought", y.run(0, 2, 1), 7);
    }

    private static void sleeps() {
        ListenerIsTired x = ruled(with(TELLER, 0, TELLER, 0), "does 1;weighs 0;spares 0;");
        x.set(4, 0, 1);
        x.set(2, 1, 20);
        due("60", x.sleeps(1), 60);
        x.set(2, 1, 19);
        due("61 is too late", x.sleeps(1), -1);
        x.set(2, 1, 79);
        due("1", x.sleeps(1), 1);
        x.set(2, 1, 0);
        x.set(6, 1, 1);
        due("0", x.sleeps(1), 0);
        due("never", x.sleeps(0), -1);
        due("none such", x.sleeps(2), -2);
        due("-1", x.sleeps(-1), -2);
        due("in thought", x.count(2), 0);
    }

    private static void round() {
        due("nobody", new ListenerIsTired().round(), 1);
        ListenerIsTired x = with(TELLER, 0);
        due("stories to 99", x.round(), 11);
        ruled(x, "does 1;weighs 0;spares 0;");
        x.set(3, 0, 40);
        due("60", x.round(), 60);
        x.set(3, 0, 39);
        due("61 is too late", x.round(), -1);
        ListenerIsTired y = with(DOG, 0);
        y.set(2, 0, 80);
        due("who is ASLEEP is looked at", y.round(), 5);
        ListenerIsTired more = with(DOG, 0, DOG, 0, DOG, 0);
        more.set(2, 0, 79);
        more.set(2, 1, 80);
        more.set(2, 2, 79);
        due("who is ASLEEP is looked at among TIRED ones", more.round(), 5);
        ListenerIsTired z = ruled(with(TELLER, 0, DEAF, 0), "does 1;weighs 0;spares 0;");
        z.set(4, 0, 1);
        z.set(4, 1, 0);
        z.set(2, 0, 99);
        due("HEARD and DAY are not looked at", z.round(), roundByHand(z));
        due("in thought", z.count(2), 0);
        ListenerIsTired liar = with(LIAR, 0, DOG, 0);
        liar.set(4, 0, 1);
        due("at first, too", liar.round(), 1);
        ListenerIsTired five = with(TELLER, 0, DOG, 0, DOG, 0, TELLER, 0, DOG, 0);
        five.set(3, 0, 50);
        due("five: the last of whom comes round in 11 DAYS", five.round(), 11);
        five.set(3, 3, 70);
        due("five: in 6 DAYS", five.round(), 6);
        five.set(3, 0, 99);
        five.set(3, 3, 99);
        five.set(2, 4, 99);
        due("five: TIRED 99, ASLEEP, 79, 59, 39, 39", five.round(), 5);
    }

    /** By run() alone, two PEOPLE. */
    private static int roundByHand(ListenerIsTired x) {
        long[] faces = new long[41];
        for (int n = 0; n <= 40; n++) {
            faces[n] = x.run(0, n, 2);
            for (int one = 0; one < 2; one++) {
                faces[n] = (faces[n] * 100 + x.run(one, n, 0)) * 100 + x.run(one, n, 1);
            }
            for (int past = 0; past < n; past++) {
                if (faces[past] == faces[n]) {
                    return n;
                }
            }
        }
        return -1;
    }

    private static void ears() {
        ListenerIsTired nobody = new ListenerIsTired();
        ListenerIsTired x = with(LIAR, 0, TELLER, 0, TELLER, 0);
        x.set(3, 0, 99);
        x.set(2, 1, 79);
        x.set(2, 2, 60);
        x.set(4, 2, 1);
        for (int what = 0; what < 3; what++) {
            due("nobody's ears", nobody.ears(1, what), 0);
            due("a liar's ear", x.ears(1, what), new int[] {200, 0, 90}[what]);
        }
        x.set(2, 2, 82);
        for (int what = 0; what < 3; what++) {
            due("fewest asleep first", x.ears(1, what), new int[] {300, 0, 112}[what]);
        }
        is(x, 2, 0, 82, 0, 1, 0, 0);
        x.set(2, 1, 80);
        x.set(2, 2, 20);
        due("20 + 31", x.ears(1, 2), 51);
        due("asleep", x.ears(1, 1), 0);
        ListenerIsTired y = with(TELLER, 0);
        due("alone", y.ears(3, 0), 0);
        y.set(2, 0, 95);
        due("alone, asleep", y.ears(1, 1), 1);
        due("alone, tired", y.ears(3, 2), 55);
        for (int n : new int[] {0, 4, -1, MAX, MIN}) {
            due("n " + n, y.ears(n, 0), -2);
        }
        due("what 3", y.ears(1, 3), -2);
        due("what -1", y.ears(1, -1), -2);
        ListenerIsTired z = ruled(with(LIAR, 0, LIAR, 0, LIAR, 0, LIAR, 0, LIAR, 0), "does 40;weighs 0;spares 0;");
        z.set(2, 0, 10);
        z.set(2, 1, 10);
        z.set(2, 2, 10);
        z.set(2, 3, 10);
        due("five: 0 tells none, the others each the one ahead", z.ears(1, 0), 1234);
        due("five", z.ears(1, 2), 0);
        due("DAY stays", z.count(2), 0);
    }

    private static void spread() {
        ListenerIsTired x = with(TELLER, 0, TELLER, 0, TELLER, 0, TELLER, 0);
        x.set(3, 0, 61);
        x.set(2, 1, 30);
        x.set(2, 2, 10);
        x.set(2, 3, 18);
        due("one bears it", x.spread(0, 0), 4);
        due("one", x.spread(0, 1), 1);
        x.set(2, 2, 30);
        x.set(2, 3, 19);
        due("two, least bits", x.spread(0, 0), 6);
        due("two", x.spread(0, 1), 2);
        x.set(2, 1, 50);
        due("another two", x.spread(0, 0), 12);
        x.set(2, 2, 49);
        x.set(6, 3, 1);
        due("49 + 30, 50 + 30", x.spread(0, 0), -1);
        due("NONE", x.spread(0, 1), -1);
        x.set(2, 1, 49);
        due("the part is cut", x.spread(0, 0), 6);
        x.set(3, 0, 0);
        due("no load", x.spread(0, 0), 2);
        x.set(2, 1, 80);
        due("80 is too tired", x.spread(0, 0), 4);
        x.set(6, 0, 1);
        due("told or not, one's own sleep is not looked at", x.spread(0, 0), 4);
        due("none such", x.spread(4, 0), -2);
        due("-1", x.spread(-1, 0), -2);
        due("what 2", x.spread(0, 2), -2);
        due("what -1", x.spread(0, -1), -2);
        due("alone", with(TELLER, 0).spread(0, 0), -1);
        is(x, 1, 0, 80, 0, -1, 0, 0);
        ListenerIsTired y = with(LIAR, 0, TELLER, 0);
        y.set(3, 0, 9);
        y.set(2, 1, 83);
        due("four less", y.spread(0, 0), 2);
        y.set(3, 1, 9);
        due("over the first", y.spread(1, 0), 1);
        due("over one", y.spread(1, 1), 1);
    }

    private static void aunt() {
        ListenerIsTired x = with(TELLER, 0, TELLER, 0, DEAF, 0, DEAF, 0);
        x.set(3, 0, 30);
        x.set(2, 1, 5);
        x.set(2, 2, 35);
        x.set(2, 3, 20);
        due("told 1: 35; told 2: 35; the first", x.aunt(0, 0), 1);
        due("35", x.aunt(0, 1), 35);
        x.set(2, 1, 6);
        due("told 1: 36", x.aunt(0, 0), 2);
        due("35", x.aunt(0, 1), 35);
        x.set(6, 2, 1);
        due("not one ASLEEP, but how TIRED that one is", x.aunt(0, 0), 3);
        due("35", x.aunt(0, 1), 35);
        x.set(2, 0, 90);
        due("oneself, too", x.aunt(0, 1), 90);
        due("all alike", x.aunt(0, 0), 1);
        x.set(6, 1, 1);
        x.set(6, 3, 1);
        due("all others sleep", x.aunt(0, 0), -1);
        due("all others sleep", x.aunt(0, 1), -1);
        due("none such", x.aunt(4, 0), -2);
        due("-1", x.aunt(-1, 0), -2);
        due("what 2", x.aunt(0, 2), -2);
        due("what -1", x.aunt(0, -1), -2);
        due("alone", with(TELLER, 0).aunt(0, 1), -1);
        is(x, 0, 0, 90, 30, -1, 0, 0);
        ListenerIsTired y = with(LIAR, 0, TELLER, 0, TELLER, 0);
        y.set(3, 0, 20);
        y.set(2, 1, 50);
        y.set(2, 2, 60);
        due("a liar", y.aunt(0, 0), 2);
        due("a liar", y.aunt(0, 1), 50);
        due("the first", y.aunt(1, 0), 0);
        due("60", y.aunt(1, 1), 60);
        ListenerIsTired z = with(TELLER, 0, TELLER, 0, TELLER, 0, TELLER, 0, TELLER, 0);
        due("five, nobody TIRED", z.aunt(4, 1), 0);
        due("five, the first", z.aunt(4, 0), 0);
        z.set(2, 4, 5);
        due("five, the last is TIRED", z.aunt(3, 1), 5);
        ListenerIsTired gone = with(TELLER, 0, TELLER, 0);
        gone.image();
        gone.person(TELLER, 0);
        gone.set(2, 2, 70);
        gone.back();
        due("who is gone is not looked at", gone.aunt(0, 1), 0);
    }

    private static void bears() {
        ListenerIsTired x = with(TELLER, 0, TELLER, 3, LIAR, 0);
        x.set(2, 1, 70);
        due("12 less 3", x.bears(0, 1), 12);
        x.set(2, 1, 79);
        due("3 less 3", x.bears(0, 1), 3);
        x.set(1, 1, 0);
        due("0", x.bears(0, 1), 0);
        x.set(1, 1, 3);
        x.set(2, 1, 80);
        due("NONE", x.bears(0, 1), -1);
        due("a liar's", x.bears(2, 1), 99);
        due("not less", x.bears(1, 0), 79);
        due("one and the same", x.bears(0, 0), -2);
        due("none such", x.bears(3, 0), -2);
        due("none such", x.bears(0, 3), -2);
        due("-1", x.bears(-1, 0), -2);
        x.set(6, 1, 1);
        due("asleep or not", x.bears(2, 1), 99);
        is(x, 0, 0, 0, 0, -1, 0, 0);
        ListenerIsTired y = ruled(with(TELLER, 0, TELLER, 0), "does 0;weighs story;spares 0;");
        y.set(3, 0, 60);
        due("the STORY is the one that is told", y.bears(0, 1), 39);
        is(y, 0, 0, 0, 60, -1, 0, 0);
        ruled(y, "does 0;weighs (story<90)*99;spares 0;");
        due("a heavy rule of small stories", y.bears(0, 1), -1);
        ListenerIsTired z = ruled(with(DEAF, 0, TELLER, 0), "does 0;weighs 0;spares 0;");
        due("twice", z.bears(0, 1), 39);
    }

    private static void mean() {
        ListenerIsTired x = with(TELLER, 0, TELLER, 0, TELLER, 0, TELLER, 0);
        due("0", x.mean(0), 0);
        due("1", x.mean(1), 1);
        x.set(2, 0, 10);
        due("5", x.mean(0), 5);
        due("2", x.mean(1), 2);
        x.set(2, 1, 13);
        due("23", x.mean(0), 23);
        due("4", x.mean(1), 4);
        ListenerIsTired alone = with(TELLER, 0);
        alone.set(2, 0, 12);
        due("12", alone.mean(0), 12);
        due("1", alone.mean(1), 1);
        due("part 2", x.mean(2), NO);
        due("part -1", x.mean(-1), NO);
        due("nobody", new ListenerIsTired().mean(0), NO);
        due("nobody", new ListenerIsTired().mean(1), NO);
    }

    private static void tells() {
        ListenerIsTired x = with(TELLER, 3, WIFE, 4, DOG, 3);
        x.set(4, 0, 1);
        x.set(4, 1, 0);
        row(x, 0, 2, 4);
        due("all true", x.tells(0, 0, 0, 0), -1);
        due("a WIFE, else her story weighs otherwise", x.tells(0, 0, 1, 1), 1 << WIFE);
        due("a TELLER's ways to hear", x.tells(0, 0, 0, 1), 1 << TELLER | 1 << DOG | 1 << LIAR);
        due("NUMBER 3 alone", x.tells(0, 0, 0, 2), 1 << 3);
        due("any NUMBER of the wife", x.tells(0, 0, 1, 2), 1023);
        due("STORIES of the wife: 0", x.tells(0, 0, 1, 3), 1);
        due("the least", x.tells(0, 0, 1, 4), 0);
        due("STORIES of 0 by which the wife isn't ASLEEP on the next day", x.tells(0, 0, 0, 3), 70);
        due("EARS of the wife", x.tells(0, 0, 1, 5), 1);
        due("EARS of 0: 1, 2 or NONE", x.tells(0, 0, 0, 5), 2 + 4 + 32);
        due("PEOPLE", x.tells(0, 0, 0, 7), 1);
        read(x, "does 4;weighs 1;spares 0;");
        read(x, "does 10;weighs 1;spares number;");
        read(x, "does 10;weighs 0;spares 0;");
        due("TEXTS", x.tells(0, 0, 0, 6), 1 + 2 + 4);
        row(x, 1, 10, 20);
        due("of the wife", x.tells(1, 1, 1, 0), -1);
        due("PEOPLE", x.tells(1, 1, 1, 7), 2);
        due("not of 0", x.tells(1, 0, 0, 0), 0);
        row(x, 2, 2, 4, 7, 8);
        due("the first that is otherwise", x.tells(2, 0, 0, 0), 2);
        due("KINDS", x.tells(2, 0, 0, 1), 0);
        due("STORIES", x.tells(2, 0, 1, 3), 0);
        due("the least: NONE", x.tells(2, 0, 1, 4), -1);
        row(x, 3, 5, 7);
        due("a STORY of the wife's at first: 3", x.tells(3, 0, 1, 3), 1);
        due("3", x.tells(3, 0, 1, 4), 3);
        row(x, 3);
        due("an empty SHEET", x.tells(3, 0, 0, 0), -1);
        due("all KINDS", x.tells(3, 0, 0, 1), 63);
        due("all NUMBERS", x.tells(3, 0, 0, 2), 1023);
        due("all STORIES", x.tells(3, 0, 0, 3), 100);
        due("all EARS", x.tells(3, 0, 1, 5), 1 + 4 + 32);
        due("all TEXTS", x.tells(3, 0, 0, 6), 15);
        due("all PEOPLE", x.tells(3, 0, 0, 7), 7);
        is(x, 0, 3, 0, 0, 1, 0, 0, TELLER);
        is(x, 1, 4, 0, 0, 0, 0, 0, WIFE);
        due("THE RULE", x.count(5), 0);
        due("DAY", x.count(2), 0);
    }

    private static void tellsRefused() {
        ListenerIsTired x = with(TELLER, 3);
        due("SHEET 4", x.tells(4, 0, 0, 0), -2);
        due("SHEET -1", x.tells(-1, 0, 0, 0), -2);
        due("BAD ahead of -11", x.tells(0, 1, 0, 0), -2);
        due("BAD ahead of -11", x.tells(0, 0, 1, 0), -2);
        due("BAD ahead of -11", x.tells(0, -1, 0, 0), -2);
        due("BAD ahead of -11", x.tells(0, 0, -1, 0), -2);
        due("what 8", x.tells(0, 0, 0, 8), -2);
        due("what -1", x.tells(0, 0, 0, -1), -2);
        due("-11", x.tells(0, 0, 0, 0), -11);
        x.sheet(0, 1, 21);
        due("21", x.tells(0, 0, 0, 0), -2);
        x.sheet(0, 1, 20);
        due("20", x.tells(0, 0, 0, 0), -1);
        x.cell(0, 19, 256);
        due("the last", x.tells(0, 0, 0, 0), 19);
        x.sheet(0, 0, 20);
        x.cell(0, 19, 256);
        due("its lowest 8 bits", x.tells(0, 0, 0, 0), -1);
    }

    private static void film() {
        ListenerIsTired x = with(TELLER, 3, WIFE, 4);
        x.set(4, 0, 1);
        x.set(4, 1, 0);
        due("film", x.film(0, 0, 20), 20);
        row(x, 1, 2, 4, 6, 8);
        due("as it was told", x.tells(0, 0, 0, 0), -1);
        due("another's", x.tells(0, 1, 0, 0), 0);
        due("bytes", x.sheet(2, 0, 20), 1);
        due("bytes", x.copy(0, 0, 2, 0, 20), 20);
        due("20 of them", x.copy(0, 0, 2, 0, 21), -12);
        due("a film of 0", x.film(0, 0, 0), 0);
        due("no items", x.cell(0, 0, 0), -12);
        due("SHEET 4", x.film(4, 0, 1), -2);
        due("SHEET -1", x.film(-1, 0, 1), -2);
        due("none such", x.film(1, 2, 1), -2);
        due("21", x.film(1, 0, 21), -2);
        due("-1", x.film(1, 0, -1), -2);
        due("a refused one changes nothing", x.tells(1, 0, 0, 0), -1);
        due("4 items", x.cell(1, 3, 8), 1);
        due("in thought", x.count(2), 0);
        row(x, 3, 1, 2, 3);
        due("over another", x.film(3, 1, 2), 2);
        due("2 items", x.cell(3, 2, 0), -12);
        due("10, 20", x.tells(3, 1, 1, 0), -1);
    }

    private static void drawn() {
        due("nobody", new ListenerIsTired().drawn(7, 40), 0);
        for (int seed : new int[] {0, 1, -5, 12345, MAX, MIN}) {
            ListenerIsTired x = with(TELLER, 0, WIFE, 1, DEAF, 2, AUNT, 3, LIAR, 4);
            ListenerIsTired y = with(TELLER, 0, WIFE, 1, DEAF, 2, AUNT, 3, LIAR, 4);
            int z = seed;
            for (int n = 0; n <= 40; n++) {
                due("drawn(" + seed + ", " + n + ")", x.drawn(seed, n), y.run(0, 0, 3));
                z = z * 1103515245 + 12345;
                int one = (z >>> 9) % 8;
                z = z * 1103515245 + 12345;
                y.set(4, one, (z >>> 9) % 8);
                y.day();
            }
            due("in thought", x.count(2), 0);
            is(x, 0, 0, 0, 0, -1, 0, 0);
            due("41", x.drawn(seed, 41), -2);
            due("-1", x.drawn(seed, -1), -2);
        }
    }

    private static void chance() {
        for (int m = 1; m <= 20; m++) {
            ListenerIsTired x = with(TELLER, 0, WIFE, 1, DEAF, 2, AUNT, 3, LIAR, 4);
            for (int k = 0; k <= 500; k += 25) {
                int many = 0;
                for (int i = 0; i < m; i++) {
                    many += x.drawn(MAX - 3 + i, 10) >= k ? 1 : 0;
                }
                int common = m;
                while (m % common != 0 || many % common != 0) {
                    common--;
                }
                due("chance above, m " + m + ", k " + k, x.chance(MAX - 3, m, k, 0), many / common);
                due("chance below, m " + m + ", k " + k, x.chance(MAX - 3, m, k, 1), m / common);
            }
        }
        ListenerIsTired x = with(TELLER, 0, WIFE, 1, DEAF, 2, AUNT, 3, LIAR, 4);
        int exact = x.drawn(9, 10);
        due("k or more", x.chance(9, 1, exact, 0), 1);
        due("k or more", x.chance(9, 1, exact + 1, 0), 0);
        due("m 0", x.chance(0, 0, 0, 0), NO);
        due("m 21", x.chance(0, 21, 0, 0), NO);
        due("m MIN", x.chance(0, MIN, 0, 0), NO);
        due("k -1", x.chance(0, 1, -1, 0), NO);
        due("k 501", x.chance(0, 1, 501, 0), NO);
        due("part 2", x.chance(0, 1, 0, 2), NO);
        due("part -1", x.chance(0, 1, 0, -1), NO);
        due("nobody", new ListenerIsTired().chance(0, 20, 1, 0), 0);
        due("nobody", new ListenerIsTired().chance(0, 20, 1, 1), 1);
    }

    private static void image() {
        ListenerIsTired x = new ListenerIsTired();
        due("nobody", x.image(), 0);
        x.person(TELLER, 1);
        x.person(WIFE, 2);
        due("two", x.image(), 2);
        due("nothing else changes", x.count(0), 2);
        x.person(DOG, 3);
        due("back to two", x.back(), 2);
        x.person(DOG, 3);
        due("the last IMAGE is kept", x.image(), 3);
        due("three", x.back(), 3);
    }

    private static void back() {
        ListenerIsTired x = with(TELLER, 1, WIFE, 2);
        due("STATE", x.back(), -3);
        int[] kept = {40, 5, 60, 50, 1, 7, 1};
        for (int what = 0; what <= 6; what++) {
            x.set(what, 0, kept[what]);
        }
        read(x, "does 4;weighs 0;spares 0;");
        x.force(1);
        x.image();
        x.force(0);
        read(x, "does 5;weighs 0;spares 0;");
        x.feed('d');
        row(x, 0, 9);
        int[] other = {41, 6, 61, 51, -1, 8, 0};
        for (int what = 0; what <= 6; what++) {
            x.set(what, 0, other[what]);
        }
        x.set(2, 1, 30);
        x.person(DOG, 0);
        x.set(4, 1, 2);
        for (int again = 0; again < 2; again++) {
            due("back", x.back(), 2);
            is(x, 0, 5, 60, 50, 1, 7, 1, TELLER);
            is(x, 1, 2, 0, 0, -1, 0, 0, WIFE);
            due("DAY", x.count(2), 40);
            due("THE RULE", x.count(5), 1);
            due("TEXTS stay", x.count(3), 3);
            due("THE TAPE stays", x.count(4), 1);
            due("SHEETS stay", x.cell(0, 0, 9), 1);
            due("who came is gone", x.told(2, 1), -1000);
            due("day", x.day(), 1);
            due("changed", x.told(1, 3), 2);
        }
        due("another comes", x.person(LIAR, 8), 2);
        is(x, 2, 8, 0, 0, -1, 0, 0, LIAR);
        int[] some = {1, 2, 3, 4, 0, 5, 1};
        for (int what = 1; what <= 6; what++) {
            x.set(what, 2, some[what]);
        }
        x.back();
        due("nothing is left of that one", x.person(DOG, 7), 2);
        is(x, 2, 7, 0, 0, -1, 0, 0, DOG);
    }

    private static void count() {
        ListenerIsTired x = with(TELLER, 1, WIFE, 2, DOG, 3);
        x.set(6, 2, 1);
        x.set(6, 0, 1);
        x.set(0, 0, 33);
        read(x, "does 4;weighs 0;spares 0;");
        read(x, "does 5;weighs 0;spares 0;");
        x.force(1);
        x.feed(0);
        x.feed(0);
        x.feed(0);
        x.feed(0);
        int[] counts = {3, 2, 33, 3, 4, 1};
        for (int i = 0; i < counts.length; i++) {
            due("count(" + i + ")", x.count(i), counts[i]);
        }
        due("6", x.count(6), -2);
        due("-1", x.count(-1), -2);
        due("MIN", x.count(MIN), -2);
    }

    private static void sheet() {
        ListenerIsTired x = with(TELLER, 1);
        for (int sheet = 0; sheet < 4; sheet++) {
            for (int sort = 0; sort < 3; sort++) {
                due("sheet of 40", x.sheet(sheet, sort, 40), 1);
                due("its last", x.cell(sheet, 39, 3), 1);
                due("41", x.sheet(sheet, sort, 41), -2);
                due("-1", x.sheet(sheet, sort, -1), -14);
                due("MIN", x.sheet(sheet, sort, MIN), -14);
                due("it stays", x.cell(sheet, 39, 4), 1);
                due("0", x.sheet(sheet, sort, 0), 1);
                due("no item", x.cell(sheet, 0, 0), -12);
            }
            due("missing, n does not matter", x.sheet(sheet, -1, sheet - 2), 1);
            due("missing", x.cell(sheet, 0, 0), -11);
            due("missing, n does not matter", x.sheet(sheet, -1, 99), 1);
        }
        due("SHEET 4", x.sheet(4, 0, 1), -2);
        due("SHEET -1", x.sheet(-1, -1, 1), -2);
        due("sort 3", x.sheet(0, 3, -1), -2);
        due("sort -2", x.sheet(0, -2, 1), -2);
        due("SHEET ahead of a size", x.sheet(4, 0, -1), -2);
        x.sheet(0, 2, 2);
        x.cell(0, 1, 7);
        x.sheet(0, 2, 2);
        due("all 0", x.tells(0, 0, 0, 0), -1);
    }

    private static void cell() {
        ListenerIsTired x = with(TELLER, 1);
        due("SHEET 4", x.cell(4, 0, 0), -2);
        due("SHEET -1", x.cell(-1, 0, 0), -2);
        due("-11", x.cell(0, -1, 0), -11);
        int[] low = {256, 65536, 0};
        for (int sort = 0; sort < 3; sort++) {
            x.sheet(0, sort, 2);
            due("2", x.cell(0, 2, 0), -12);
            due("-1", x.cell(0, -1, 0), -12);
            due("MIN", x.cell(0, MIN, 0), -12);
            due("MAX", x.cell(0, MAX, 0), -12);
            due("cell", x.cell(0, 1, low[sort]), 1);
            due("lowest bits are 0", x.tells(0, 0, 0, 0), -1);
            due("cell", x.cell(0, 1, 1 + low[sort]), 1);
            due("1", x.tells(0, 0, 0, 0), 1);
        }
        x.sheet(0, 2, 1);
        x.cell(0, 0, 65536);
        due("an int", x.tells(0, 0, 0, 0), 0);
        x.sheet(0, 1, 1);
        x.cell(0, 0, 256);
        due("a short", x.tells(0, 0, 0, 0), 0);
    }

    /** The items of a SHEET of PEOPLE's KINDS and NUMBERS as digits. */
    private static long peopleBy(ListenerIsTired x, int sheet, int sort, int n) {
        x.back();
        x.valley(sheet, sort, 0, n);
        long digits = 0;
        for (int one = 0; one < x.count(0); one++) {
            digits = digits * 100 + x.told(one, 7) * 10 + x.told(one, 1);
        }
        return digits;
    }

    private static void copy() {
        ListenerIsTired x = new ListenerIsTired();
        x.image();
        for (int sort = 0; sort < 3; sort++) {
            for (int sheet = 0; sheet < 2; sheet++) {
                x.sheet(sheet, sort, 6);
            }
            for (int i = 0; i < 6; i++) {
                x.cell(0, i, i % 6);
            }
            due("copy", x.copy(0, 2, 1, 1, 4), 4);
            due("copied", peopleBy(x, 1, sort, 3), 23450);
            due("onto itself", x.copy(0, 0, 0, 1, 5), 5);
            due("as they were", peopleBy(x, 0, sort, 3), 1234);
            due("onto itself", x.copy(0, 1, 0, 0, 5), 5);
            due("as they were", peopleBy(x, 0, sort, 3), 12344);
            due("0 at the ends", x.copy(0, 6, 1, 6, 0), 0);
            int[][] outside = {{0, 0, 7}, {1, 0, 6}, {0, 1, 6}, {-1, 0, 1}, {0, -1, 1}, {0, 0, -1}, {7, 0, 0}, {0, 7, 0},
                {MAX, 0, 1}, {1, 1, MAX}, {0, MAX, 2}, {MIN, MIN, MIN}};
            for (int[] o : outside) {
                due("outside", x.copy(0, o[0], 1, o[1], o[2]), -12);
            }
            due("unchanged", peopleBy(x, 1, sort, 3), 23450);
        }
        x.sheet(0, 0, 2);
        x.sheet(1, 1, 2);
        due("-13 ahead of -12", x.copy(0, 0, 1, 0, 9), -13);
        due("-11 ahead of -12", x.copy(0, 0, 2, 0, 9), -11);
        due("-11", x.copy(2, 0, 0, 0, -1), -11);
        due("-11", x.copy(2, 0, 3, 0, 0), -11);
        due("SHEET 4", x.copy(4, 0, 2, 0, 1), -2);
        due("SHEET 4", x.copy(2, 0, 4, 0, 1), -2);
        due("SHEET -1", x.copy(-1, 0, 0, 0, 1), -2);
        due("SHEET -1", x.copy(0, 0, -1, 0, 1), -2);
    }

    private static void valley() {
        ListenerIsTired x = new ListenerIsTired();
        due("SHEET 4", x.valley(4, 0, 0, 0), -2);
        due("SHEET -1", x.valley(-1, 0, 0, 0), -2);
        due("sort 3", x.valley(0, 3, 0, 0), -2);
        due("sort -1", x.valley(0, -1, 0, 0), -2);
        due("n 6", x.valley(0, 0, 0, 6), -2);
        due("n -1", x.valley(0, 0, 0, -1), -2);
        due("-11", x.valley(0, 0, 0, 0), -11);
        row(x, 0, 7, 1, 3, 6, 0, 2, 10, 5, 5);
        due("-13", x.valley(0, 0, 0, 0), -13);
        due("-13", x.valley(0, 1, 0, 5), -13);
        due("n 0 asks no place", x.valley(0, 2, 99, 0), 0);
        due("place -1", x.valley(0, 2, -1, 2), -12);
        due("place MAX", x.valley(0, 2, MAX, 1), -12);
        due("place MIN", x.valley(0, 2, MIN, 5), -12);
        due("nobody came", x.count(0), 0);
        due("two came", x.valley(0, 2, 1, 4), 2);
        is(x, 0, 3, 0, 0, -1, 0, 0, WIFE);
        is(x, 1, 5, 0, 0, -1, 0, 0, LIAR);
        due("one stood ahead of the end", x.valley(0, 2, 5, 3), -12);
        is(x, 2, 5, 0, 0, -1, 0, 0, LIAR);
        due("three", x.count(0), 3);
        due("half a pair", x.valley(0, 2, 8, 1), -12);
        row(x, 1, 0, 0, 0, 1, 0, 2, 0, 3, 0, 4);
        due("all that have room", x.valley(1, 2, 0, 5), 2);
        due("five", x.count(0), 5);
        due("no room, then outside", x.valley(1, 2, 8, 2), -12);
        due("no room", x.valley(1, 2, 0, 5), 0);
    }

    private static void taken() {
        int[][] under = {{0}, {0, 1}, {0, 2}, {0, 1, 3}, {0, 2, 4}, {0, 5}};
        for (int kind = 0; kind < 6; kind++) {
            ListenerIsTired x = with(kind, 7);
            for (int k = 0; k < 6; k++) {
                boolean isUnder = false;
                for (int above : under[kind]) {
                    isUnder |= above == k;
                }
                due("kind " + kind + " taken for " + k, x.taken(0, k), isUnder ? 7 : -13);
            }
            due("k 6", x.taken(0, 6), -2);
            due("k -1", x.taken(9, -1), -2);
            due("none such", x.taken(1, 0), -11);
            due("-1", x.taken(-1, 0), -11);
            due("MAX", x.taken(MAX, 5), -11);
        }
    }
}
