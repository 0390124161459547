/** For each sentence of the document that names a boundary case one test of its own; no words of a promise are left out. */
public final class BoundaryTest {
    /** What is no promise: the calls' heads, the marks of a block, what the interface says ahead of calls. */
    private static final String NO_PROMISE = "`+[^`]*`+:|`+text|`+|Ahead of the calls .*";

    private BoundaryTest() {
    }

    public static void main(String[] args) {
        int failed = runs();
        System.out.println("BoundaryTest: " + Sentences.ends());
        if (failed != 0) {
            System.exit(1);
        }
    }

    /** How many sentences failed. */
    static int runs() {
        PeopleBounds.all();
        TextBounds.all();
        DayBounds.all();
        BestBounds.all();
        ToldBounds.all();
        HostBounds.all();
        Sentences.in("the document");
        for (String section : Sentences.SECTIONS.keySet()) {
            if (section.startsWith("Terms ") || section.startsWith("Promise ")) {
                expectsNothingLeft(section);
            }
        }
        return Sentences.failed.size();
    }

    /** All words of Terms and of the promises stand in a sentence that has its test. */
    private static void expectsNothingLeft(String section) {
        StringBuilder letters = new StringBuilder(Sentences.SECTIONS.get(section));
        for (String[] sentence : Sentences.tested) {
            int at = sentence[0].equals(section) ? letters.indexOf(sentence[1]) : -1;
            if (at >= 0) {
                letters.replace(at, at + sentence[1].length(), "#".repeat(sentence[1].length()));
            }
        }
        String left = letters.toString().replaceAll(NO_PROMISE, "").replaceAll("[#,. ]+", " ").trim();
        Sentences.sectionTested(section, left);
    }
}
