import java.nio.charset.StandardCharsets;

/** Compares answers with those that are due, for the tests of this project. */
final class Due {
    private int checks = 0;
    private int wrong = 0;
    private int sentences = 0;
    private int checksBefore = 0;
    private String sentence = "";

    /** The words of the document that the next checks are for. */
    void sentence(String words) {
        endSentence();
        sentence = words;
        sentences++;
        checksBefore = checks;
    }

    /** A boundary has two sides, so that one check for a sentence is too few. */
    private void endSentence() {
        if (sentences > 0 && checks - checksBefore < 2) {
            tellWrong("only " + (checks - checksBefore) + " checks");
        }
    }

    private void tellWrong(String what) {
        wrong++;
        System.out.println(what + (sentence.isEmpty() ? "" : "   (\"" + sentence + "\")"));
    }

    void same(String what, long got, long want) {
        checks++;
        if (got != want) {
            tellWrong(what + " answered " + got + ", due is " + want);
        }
    }

    void same(String what, String got, String want) {
        checks++;
        if (!got.equals(want)) {
            tellWrong(what + " answered \"" + got + "\", due is \"" + want + "\"");
        }
    }

    void holds(String what, boolean got) {
        same(what, got ? 1 : 0, 1);
    }

    void fails(String what, boolean got) {
        same(what, got ? 1 : 0, 0);
    }

    /** tries, choices, length and goals at once. */
    void counts(String what, PrunedSearch x, int tries, int choices, int length, int goals) {
        same(what + ": tries()", x.tries(), tries);
        same(what + ": choices()", x.choices(), choices);
        same(what + ": length()", x.length(), length);
        same(what + ": goals()", x.goals(), goals);
    }

    /** Runs the tests of the sentences, so that one that breaks off hides none of the others. */
    void each(Runnable... tests) {
        for (Runnable test : tests) {
            try {
                test.run();
            } catch (RuntimeException e) {
                checks++;
                tellWrong("broken off by " + e);
            }
        }
        finish();
    }

    /** What consult answers to the text on a new object. */
    void consults(String text, int want) {
        same("consult \"" + text + "\"", consulted(new PrunedSearch(), text), want);
    }

    /** What ask answers to the text on a new object. */
    void asks(String text, int want) {
        same("ask \"" + text + "\"", asked(new PrunedSearch(), text), want);
    }

    void finish() {
        endSentence();
        System.out.println((sentences > 0 ? sentences + " sentences, " : "") + checks + " checks, " + wrong + " wrong");
        if (wrong != 0 || checks == 0) {
            System.exit(1);
        }
    }

    /** A row for type: the first eight characters from the place on. */
    static long row(String text, int from) {
        long row = 0;
        byte[] bytes = text.getBytes(StandardCharsets.ISO_8859_1);
        for (int k = 0; k < 8 && from + k < bytes.length; k++) {
            row |= (bytes[from + k] & 255L) << 8 * k;
        }
        return row;
    }

    /** Types the text; whether every row of it was taken. */
    static boolean typed(PrunedSearch x, String text) {
        boolean all = true;
        for (int from = 0; from < text.length(); from += 8) {
            all &= x.type(row(text, from));
        }
        return all;
    }

    static int consulted(PrunedSearch x, String text) {
        if (!typed(x, text)) {
            throw new IllegalArgumentException("not taken: " + text);
        }
        return x.consult();
    }

    static int asked(PrunedSearch x, String text) {
        if (!typed(x, text)) {
            throw new IllegalArgumentException("not taken: " + text);
        }
        return x.ask();
    }

    /** A new object with these clauses. */
    static PrunedSearch with(String clauses) {
        PrunedSearch x = new PrunedSearch();
        if (consulted(x, clauses) < 0) {
            throw new IllegalArgumentException("not read: " + clauses);
        }
        return x;
    }

    /** A new object with these clauses, and a search for this question. */
    static PrunedSearch search(String clauses, String question) {
        PrunedSearch x = with(clauses);
        if (asked(x, question) < 0) {
            throw new IllegalArgumentException("not read: " + question);
        }
        return x;
    }

    /** The text for VARIABLE v. */
    static String text(PrunedSearch x, int v) {
        return text(x, v, 0);
    }

    /** The text for VARIABLE v from a place on: the longest ones have more places than there are calls. */
    static String text(PrunedSearch x, int v, int from) {
        StringBuilder text = new StringBuilder();
        for (char c = x.answer(v, from); c != 0; c = x.answer(v, from + text.length())) {
            text.append(c);
        }
        return text.toString();
    }

    /** All answers of the search, as the texts of its first VARIABLES, up to its end. */
    static String answers(PrunedSearch x, int variables) {
        StringBuilder all = new StringBuilder();
        int end = x.run(100);
        for (int k = 0; k < 100 && (end == 1 || end == 2); k++) {
            if (end == 1) {
                for (int v = 0; v < variables; v++) {
                    all.append(text(x, v)).append(' ');
                }
                all.append("; ");
            }
            end = x.run(100);
        }
        return all.append(end).toString();
    }

    /** All that can be seen of an object without changing it, but for its text. */
    static String shown(PrunedSearch x) {
        StringBuilder all = new StringBuilder();
        all.append(x.clauses()).append(' ').append(x.tries()).append(' ').append(x.choices()).append(' ');
        all.append(x.length()).append(' ').append(x.goals());
        for (int v = 0; v < 8; v++) {
            all.append(' ').append(text(x, v));
        }
        return all.append('\n').toString();
    }

    /** What is shown now and by later calls, those that read the text among them. */
    static String later(PrunedSearch x) {
        StringBuilder all = new StringBuilder(shown(x));
        for (int k = 0; k < 5; k++) {
            all.append(x.run(1)).append(": ").append(shown(x));
        }
        all.append("consult ").append(x.consult()).append(": ").append(shown(x));
        all.append("ask ").append(asked(x, "p(X).")).append(": ").append(answers(x, 1));
        return all.toString();
    }
}
