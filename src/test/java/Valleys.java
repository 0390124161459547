import java.util.ArrayList;
import java.util.List;

/** Valleys that refused calls are tried on, each made alike each time, and all that can be asked of one. */
final class Valleys {
    private static final int[][] ROWS = {{4, 1, 3, 7, 99, 5}, {1, 2, 0, 9}, {5, 0}, {}};
    private static final int[] SORTS = {2, 0, 1, -1};

    private Valleys() {
    }

    /** Four of PEOPLE, 2 ASLEEP, three TEXTS, half a TEXT on THE TAPE, THE IMAGE of other things, SHEET 3 missing. */
    static ListenerIsTired some() {
        ListenerIsTired x = Sentences.with(0, 3, 3, 4, 2, 2);
        int[][] first = {{4, 0, 1}, {4, 1, 2}, {2, 0, 35}, {2, 1, 62}, {2, 2, 81}, {3, 0, 17}, {3, 1, 8}, {5, 1, 3}, {0, 0, 41}};
        for (int[] set : first) {
            x.set(set[0], set[1], set[2]);
        }
        Sentences.read(x, "does 6;weighs 5;spares 2;");
        Sentences.read(x, "does day;weighs heard;spares asleep;");
        x.force(1);
        x.image();
        x.person(4, 1);
        int[][] then = {{2, 0, 36}, {3, 0, 18}, {0, 0, 42}, {6, 2, 1}, {1, 0, 5}, {4, 2, 3}, {5, 0, 9}};
        for (int[] set : then) {
            x.set(set[0], set[1], set[2]);
        }
        x.force(2);
        feed(x, "does 1;weighs 2;spares ");
        return rowsOn(x);
    }

    static ListenerIsTired nobody() {
        return rowsOn(new ListenerIsTired());
    }

    static ListenerIsTired fullOfPeople() {
        return rowsOn(Sentences.with(0, 3, 1, 4, 2, 5, 3, 6, 5, 7));
    }

    /** Six TEXTS, and the next one on THE TAPE. */
    static ListenerIsTired fullOfTexts() {
        ListenerIsTired x = Sentences.with(0, 3);
        for (int i = 1; i <= 5; i++) {
            Sentences.read(x, "does" + i + ";weighs0;spares0;");
        }
        feed(x, "does6;weighs0;spares0;");
        return rowsOn(x);
    }

    /** 160 bytes on THE TAPE, a TEXT up to the last. */
    static ListenerIsTired fullTape() {
        ListenerIsTired x = Sentences.with(0, 3);
        feed(x, "does 1;weighs 2;spares 3;" + " ".repeat(135));
        return rowsOn(x);
    }

    private static void feed(ListenerIsTired x, String letters) {
        for (int i = 0; i < letters.length(); i++) {
            x.feed(letters.charAt(i));
        }
    }

    private static ListenerIsTired rowsOn(ListenerIsTired x) {
        for (int sheet = 0; sheet < ROWS.length; sheet++) {
            if (SORTS[sheet] >= 0) {
                Sentences.row(x, sheet, SORTS[sheet], ROWS[sheet]);
            }
        }
        return x;
    }

    /** All that can be asked, by calls that change much: the object is spent then. */
    static List<String> face(ListenerIsTired x) {
        List<String> face = new ArrayList<>();
        people(x, face);
        tape(x, face);
        texts(x, face);
        rows(x, face);
        face.add("back " + x.back());
        people(x, face);
        return face;
    }

    private static void people(ListenerIsTired x, List<String> face) {
        for (int what = 0; what <= 5; what++) {
            face.add("count(" + what + ") " + x.count(what));
        }
        for (int one = 0; one < 5; one++) {
            for (int what = 1; what <= 9; what++) {
                face.add("told(" + one + ", " + what + ") " + x.told(one, what));
            }
            face.add("hears(" + one + ", 37) " + x.hears(one, 37));
        }
    }

    private static void texts(ListenerIsTired x, List<String> face) {
        for (int text = 5; text >= 0; text--) {
            String asked = "force(" + text + ") " + x.force(text);
            face.add(asked + ": " + x.told(0, 8) + " " + x.told(0, 9) + " " + x.hears(0, 50));
        }
    }

    private static void tape(ListenerIsTired x, List<String> face) {
        face.add("feed 3 " + x.feed('3'));
        face.add("feed ; " + x.feed(';'));
        face.add("text " + x.text() + ", THE TAPE " + x.count(4));
    }

    private static void rows(ListenerIsTired x, List<String> face) {
        if (x.count(0) == 0) {
            x.person(4, 0);
        }
        for (int sheet = 0; sheet < ROWS.length; sheet++) {
            for (int sort = 0; sort < 3; sort++) {
                face.add("SHEET " + sheet + " taken for " + sort + ": " + x.valley(sheet, sort, 0, 0));
            }
            int size = 0;
            for (int step = 32; step > 0; step /= 2) {
                size += x.copy(sheet, 0, sheet, 0, size + step) > 0 ? step : 0;
            }
            face.add("size of SHEET " + sheet + ": " + size);
            for (int i = 0; i < ROWS[sheet].length; i++) {
                face.add("item " + i + " of SHEET " + sheet + ": " + Sentences.itemIs(x, sheet, i, ROWS[sheet][i]));
            }
        }
    }
}
