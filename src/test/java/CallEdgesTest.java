import java.util.LinkedHashMap;
import java.util.Map;
import java.util.function.Supplier;

/** Promises 1 and 3 to 12, and the calls that are refused: each sentence at its boundary. */
final class CallEdgesTest {
    private static final int NONE = PrunedSearch.NONE;
    private static final int MUCH = PrunedSearch.MUCH;
    private static final String TWO = "p(a). p(b).";

    /** With this begin the names of the states that have a search. */
    private static final String SEARCH = "a search, ";

    private final Due due = new Due();

    public static void main(String[] args) {
        CallEdgesTest test = new CallEdgesTest();
        test.due.each(
            test::mostCalls, test::refusedChangesNothing, test::newObject, test::consultPutsBehind,
            test::consultAnswers, test::consultPutsNothing, test::consultEmptiesTheText,
            test::consultEndsTheSearch, test::askBegins, test::askAnswers, test::askWrongOrMuch,
            test::askEmptiesTheText, test::runStops, test::runAnswers, test::endedAnswersTheSame,
            test::runWithoutSearch, test::runOutOfRange, test::answerNumbers, test::answerOnlyThere,
            test::answerText, test::answerLists, test::answerFree, test::answerPlaces,
            test::answerWithoutBlanks,
            () -> test.counted("The number of clauses.", 0),
            () -> test.counted("The tries of the search; 0 when there is none.", 1),
            () -> test.counted("How many choices the search has; 0 when there is none.", 2),
            () -> test.counted("The length of the branch; 0 when there is no search.", 3),
            () -> test.counted("How many goals are left in the branch; 0 when it failed, or there is no search.", 4),
            test::forgetTakesAway, test::forgetEndsTheSearch, test::forgetLeavesTheText);
    }

    /** Objects in all the states that differ, by name, those with a search last. */
    private static Map<String, Supplier<PrunedSearch>> states() {
        Map<String, Supplier<PrunedSearch>> states = new LinkedHashMap<>();
        states.put("new", PrunedSearch::new);
        states.put("with a text", () -> typed(new PrunedSearch(), "p(b)."));
        states.put("with a wrong text", () -> typed(new PrunedSearch(), "p(b"));
        states.put("with clauses", () -> typed(Due.with(TWO), "p(c)."));
        states.put("full", () -> typed(Due.with("p(a).".repeat(24)), " ".repeat(240)));
        states.put("wrongly asked", () -> afterAsk(TWO, "p(X)"));
        states.put("asked too much", () -> afterAsk(TWO, "p(1,2,3,4,5)."));
        states.put("consulted", () -> afterConsult("p(c)."));
        states.put("consulted nothing", () -> afterConsult(""));
        states.put("wrongly consulted", () -> afterConsult("p("));
        states.put("consulted too much", () -> afterConsult("p(1,2,3,4,5)."));
        states.put("forgotten", () -> forgotten(TWO, "p(X)."));
        states.put(SEARCH + "asked", () -> typed(after(0, TWO, "p(X),p(Y)."), "p(c)."));
        states.put(SEARCH + "asked, with a full text", () -> typed(after(0, TWO, "p(X)."), "p(c)." + " ".repeat(235)));
        states.put(SEARCH + "going", () -> typed(after(1, TWO, "p(X),p(Y)."), "p(c)."));
        states.put(SEARCH + "failed", () -> typed(after(2, TWO, "p(X),q(X),p(Y)."), "p(c)."));
        states.put(SEARCH + "at an answer", () -> typed(after(2, TWO, "p(X),p(Y)."), "p(c)."));
        states.put(SEARCH + "at the last answer", () -> typed(after(1, TWO, "p(a)."), "p(c)."));
        states.put(SEARCH + "EMPTY", () -> typed(after(1, TWO, "p(c),p(a)."), "p(c)."));
        states.put(SEARCH + "DEEP", () -> typed(after(61, "p(X):-p(X). p(a).", "p(X)."), "p(c)."));
        states.put(SEARCH + "LARGE", () -> typed(after(50, "p(X):-p(f(X,X)).", "p(X)."), "p(c)."));
        return states;
    }

    private static boolean hasSearch(String state) {
        return state.startsWith(SEARCH);
    }

    private static PrunedSearch typed(PrunedSearch x, String text) {
        Due.typed(x, text);
        return x;
    }

    private static PrunedSearch after(int steps, String clauses, String question) {
        PrunedSearch x = Due.search(clauses, question);
        for (int k = 0; k < steps; k++) {
            x.run(1);
        }
        return x;
    }

    private static PrunedSearch afterAsk(String clauses, String question) {
        PrunedSearch x = after(1, clauses, "p(X).");
        Due.asked(x, question);
        return typed(x, "p(d).");
    }

    private static PrunedSearch afterConsult(String clauses) {
        PrunedSearch x = after(1, TWO, "p(X).");
        Due.consulted(x, clauses);
        return typed(x, "p(d).");
    }

    private static PrunedSearch forgotten(String clauses, String question) {
        PrunedSearch x = typed(after(1, clauses, question), "p(d).");
        x.forget();
        return x;
    }

    private void mostCalls() {
        due.sentence("An object is used for at most 512 calls after it has been made");
        PrunedSearch x = new PrunedSearch();
        for (int k = 0; k < 42; k++) {
            x.type(Due.row("p(a). p(", 0));
            x.type(Due.row("f(X)):-p", 0));
            x.type(Due.row("(X).", 0));
            due.same("consult", x.consult(), k < 12 ? 2 : MUCH);
            x.type(Due.row("p(X).", 0));
            due.same("ask", x.ask(), 1);
            due.same("run", x.run(100), 1);
            due.same("run", x.run(100), 1);
            due.same("answer", x.answer(0, 0), 'f');
            due.same("tries", x.tries(), 3);
            due.same("length", x.length(), 2);
            due.same("clauses", x.clauses(), Math.min(2 * k + 2, 24));
        }
        // 504 calls were made.
        String text = "f(a)";
        for (int i = 0; i < 8; i++) {
            due.same("call " + (505 + i), x.answer(0, i), i < 4 ? text.charAt(i) : 0);
        }
    }

    /** What the refused call answered is due; whether it changed nothing, a second object tells. */
    private void refused(String what, PrunedSearch x, PrunedSearch twin, long row, int n) {
        if (n == 1000) {
            due.fails(what, x.type(row));
        } else {
            due.same(what, x.run(n), NONE);
        }
        due.same(what + ", and what later calls show", Due.later(x), Due.later(twin));
    }

    private void refusedChangesNothing() {
        due.sentence("A call that is refused changes nothing.");
        int[] counts = {0, -1, 101, 102, Integer.MIN_VALUE, Integer.MAX_VALUE};
        long[] rows = {'%', Due.row("p(e).  %", 0), Due.row("%p(e).", 0), -1, 1};
        for (Map.Entry<String, Supplier<PrunedSearch>> entry : states().entrySet()) {
            String state = entry.getKey();
            Supplier<PrunedSearch> made = entry.getValue();
            for (int n : counts) {
                refused(state + ": run(" + n + ")", made.get(), made.get(), 0, n);
            }
            for (long row : rows) {
                refused(state + ": type(" + row + ")", made.get(), made.get(), row, 1000);
            }
            if (!hasSearch(state)) {
                refused(state + ": run(1)", made.get(), made.get(), 0, 1);
                refused(state + ": run(100)", made.get(), made.get(), 0, 100);
            }
            if (state.contains("full")) {
                refused(state + ": one character more", made.get(), made.get(), '.', 1000);
                refused(state + ": eight more", made.get(), made.get(), Due.row("p(e).   ", 0), 1000);
            }
        }
    }

    private void newObject() {
        due.sentence("No text, no clauses, no names, no search.");
        PrunedSearch x = new PrunedSearch();
        due.same("no clauses", x.clauses(), 0);
        due.counts("no search", x, 0, 0, 0, 0);
        due.same("no search", x.run(1), NONE);
        due.same("no search", x.answer(0, 0), 0);
        due.same("no text", x.ask(), -1);
        due.same("no text", new PrunedSearch().consult(), 0);
        due.holds("room for a whole text", Due.typed(new PrunedSearch(), " ".repeat(240)));
        due.fails("and no more", Due.typed(new PrunedSearch(), " ".repeat(241)));
        due.consults("p.".repeat(24), 24);
        due.consults("p.".repeat(25), MUCH);
        due.consults(NewObjectTest.names(32), 1);
        due.consults(NewObjectTest.names(33), MUCH);
        PrunedSearch used = after(1, TWO, "p(X).");
        due.same("a second object has no clauses", new PrunedSearch().clauses(), 0);
        due.same("and the first one keeps its own", Due.text(used, 0) + used.clauses(), "a2");
    }

    private void consultPutsBehind() {
        due.sentence("Reads the text as clauses and puts them behind those that are there, in their order.");
        PrunedSearch x = Due.with("p(b). p(a).");
        due.same("two more", Due.consulted(x, "p(d). p(c)."), 2);
        Due.asked(x, "p(X).");
        due.same("in their order", Due.answers(x, 1), "b ; a ; d ; c ; 0");
        due.same("none more", Due.consulted(x, ""), 0);
        due.same("an equal one", Due.consulted(x, "p(b)."), 1);
        Due.asked(x, "p(X).");
        due.same("behind them all", Due.answers(x, 1), "b ; a ; d ; c ; b ; 0");
        PrunedSearch y = Due.with("p(a).".repeat(23));
        due.same("the last one that fits", Due.consulted(y, "p(z)."), 1);
        Due.asked(y, "p(z).");
        due.same("is there", y.run(1), 1);
    }

    private void consultAnswers() {
        due.sentence("Answers how many those were; or -1 - fault, when it is wrong, or MUCH, when it is right but too much");
        due.consults("", 0);
        due.consults("p.", 1);
        due.consults("p.".repeat(24), 24);
        due.consults("p.".repeat(25), MUCH);
        due.consults("p.".repeat(25) + "X.", -51);
        due.consults("X", -1);
        due.consults("p" + " ".repeat(239), -241);
        due.consults("p(a,b,c,d,e).", MUCH);
        due.consults("p(a,b,c,d,e)", -13);
        due.consults("p(a,b,c,d,e).q", -15);
        due.consults("p(a,b,c,d,e). p(X", -18);
        PrunedSearch x = Due.with(TWO);
        due.same("not those that were there", Due.consulted(x, "p(c)."), 1);
        due.same("MUCH", MUCH, -1000);
    }

    private void consultPutsNothing() {
        due.sentence("then nothing is put there");
        String[] texts = {"p(c). p(d)", "p(c). X.", "p(c). :", "p(c). p(a,b,c,d,e).", "p(c). p([A,B,C,D,E,F,G,H,I]).", "p(c). p(" + ReadingTest.list(19) + ",a).",
            "p(c).".repeat(23), "p(c). p:-!,!,!,!,!,!,!,!,!.", "p(c). " + NewObjectTest.names(31)};
        for (String text : texts) {
            PrunedSearch x = Due.with(TWO);
            due.holds("refused: " + text, Due.consulted(x, text) < 0);
            due.same("clauses() after " + text, x.clauses(), 2);
            Due.asked(x, "p(X).");
            due.same("answers after " + text, Due.answers(x, 1), "a ; b ; 0");
            due.same("the next one after " + text, Due.consulted(x, "p(e)."), 1);
            Due.asked(x, "p(X).");
            due.same("is the third after " + text, Due.answers(x, 1), "a ; b ; e ; 0");
        }
        PrunedSearch y = Due.with(TWO);
        due.same("one that is put", Due.consulted(y, "p(c).".repeat(22)), 22);
        due.same("one that is put", y.clauses(), 24);
    }

    private static final String[] CLAUSE_TEXTS = {"", "  ", "p(c).", "p(c).p(d).", "p(c)", "X", "p(1,2,3,4,5).", "p(c).p(1,2,3,4,5)."};

    private void consultEmptiesTheText() {
        due.sentence("In all cases the text is empty then, and");
        for (String text : CLAUSE_TEXTS) {
            PrunedSearch x = Due.with(TWO);
            Due.consulted(x, text);
            due.same("consult again after \"" + text + "\"", x.consult(), 0);
            Due.consulted(x, text);
            due.same("ask after \"" + text + "\"", x.ask(), -1);
            Due.consulted(x, text);
            due.holds("a whole text after \"" + text + "\"", Due.typed(x, " ".repeat(240)));
        }
    }

    private void consultEndsTheSearch() {
        due.sentence("and a search ends: there is none any more");
        for (String text : CLAUSE_TEXTS) {
            for (int steps = 0; steps <= 3; steps++) {
                PrunedSearch x = after(steps, TWO, "p(X).");
                due.holds("a search before \"" + text + "\"", after(steps, TWO, "p(X).").run(1) != NONE);
                Due.consulted(x, text);
                due.counts("after \"" + text + "\"", x, 0, 0, 0, 0);
                due.same("run after \"" + text + "\"", x.run(1), NONE);
                due.same("answer after \"" + text + "\"", x.answer(0, 0), 0);
            }
        }
    }

    private void askBegins() {
        due.sentence("Reads the text as a question and begins a search for it, in place of another one.");
        for (int steps = 0; steps <= 3; steps++) {
            PrunedSearch x = after(steps, TWO + "r(z). r(y).", "p(X).");
            due.same("the other one", Due.text(x, 0), steps == 1 ? "a" : steps == 2 ? "b" : "");
            due.same("ask", Due.asked(x, "p(b),r(Y)."), 1);
            due.counts("the new one after " + steps, x, 0, 0, 0, 2);
            due.same("no answer yet", x.answer(0, 0), 0);
            due.same("its answers after " + steps, Due.answers(x, 1), "z ; y ; 0");
            due.same("its tries after " + steps, x.tries(), 3);
        }
        PrunedSearch deep = after(61, "p(X):-p(X). q(a).", "p(X).");
        due.same("ended", deep.run(1), 3);
        Due.asked(deep, "q(X).");
        due.same("a new one all the same", deep.run(1), 1);
        PrunedSearch large = after(50, "p(X):-p(f(X,X)). q(a).", "p(X).");
        due.same("ended", large.run(1), 4);
        Due.asked(large, "q(X).");
        due.same("a new one all the same", large.run(1), 1);
    }

    private void askAnswers() {
        due.sentence("Answers how many different VARIABLES it has, _ alone not counted");
        due.asks("p.", 0);
        due.asks("p(a,[]).", 0);
        due.asks("p(_,_,_,_).", 0);
        due.asks("p(X).", 1);
        due.asks("p(X,X),p(X).", 1);
        due.asks("p(X,x,Xx,_X).", 3);
        due.asks("p(_,X,_).", 1);
        due.asks("p(__,_1).", 2);
        due.asks("p(A,B,C,D),p(E,F,G,H).", 8);
        due.asks("p(A,B,C,D),p(E,F,G,_).", 7);
        due.asks("p(A,B,C,D),p(E,F,G,[H|_]).", MUCH);
    }

    private void askWrongOrMuch() {
        due.sentence("or -1 - fault or MUCH likewise: then there is no search any more");
        String[] texts = {"", " ", "p(X)", "X.", "p(X). p(Y).", "p(X):-q.", "p(a,b,c,d,e).", "p,p,p,p,p,p,p,p,p.", "p([A,B,C,D,E,F,G,H,_])."};
        int[] answers = {-1, -2, -5, -1, -7, -5, MUCH, MUCH, MUCH};
        for (int k = 0; k < texts.length; k++) {
            for (int steps = 0; steps <= 3; steps++) {
                PrunedSearch x = after(steps, TWO, "p(X).");
                due.same("ask \"" + texts[k] + "\"", Due.asked(x, texts[k]), answers[k]);
                due.counts("after \"" + texts[k] + "\"", x, 0, 0, 0, 0);
                due.same("run after \"" + texts[k] + "\"", x.run(1), NONE);
                due.same("answer after \"" + texts[k] + "\"", x.answer(0, 0), 0);
                due.same("clauses after \"" + texts[k] + "\"", x.clauses(), 2);
            }
        }
        due.asks("p(a,b,c,d,e)", -13);
        due.asks("p(a,b,c,d,e).q", -14);
    }

    private void askEmptiesTheText() {
        due.sentence("In all cases the text is empty then.");
        String[] texts = {"", "  ", "p(X).", "p(X)", "X", "p(1,2,3,4,5)."};
        for (String text : texts) {
            PrunedSearch x = Due.with(TWO);
            Due.asked(x, text);
            due.same("ask again after \"" + text + "\"", x.ask(), -1);
            Due.asked(x, text);
            due.same("consult after \"" + text + "\"", x.consult(), 0);
            Due.asked(x, text);
            due.holds("a whole text after \"" + text + "\"", Due.typed(x, " ".repeat(240)));
        }
    }

    private void runStops() {
        due.sentence("The search goes on until there is an answer, or it ends, or n steps were made in this call.");
        for (int n = 1; n <= 100; n += 33) {
            PrunedSearch x = Due.search("p(X):-q. q.", "p(X),!,true,p(Y).");
            int calls = 1;
            for (int end = x.run(n); end == 2 && calls < 20; end = x.run(n)) {
                calls++;
            }
            due.same("6 steps, " + n + " a call", calls, (6 + n - 1) / n);
            due.same("at the answer", x.goals(), 0);
            due.same("and no step more", x.tries(), 4);
        }
        PrunedSearch l = Due.search("l:-true,l.", "l.");
        due.same("99 steps", l.run(99), 2);
        due.counts("99 steps", l, 50, 0, 50, 2);
        due.same("one more", l.run(1), 2);
        due.counts("100 steps", l, 50, 0, 50, 1);
        PrunedSearch hundred = Due.search("l:-true,l.", "l.");
        due.same("100 steps at once", hundred.run(100), 2);
        due.counts("100 steps at once", hundred, 50, 0, 50, 1);
        PrunedSearch answers = Due.search(TWO, "p(X).");
        due.same("no further than an answer", answers.run(100), 1);
        due.same("no further than an answer", Due.text(answers, 0), "a");
        due.same("to the next one", answers.run(100), 1);
        due.same("to the next one", Due.text(answers, 0), "b");
    }

    private void runAnswers() {
        due.sentence("Answers 1 at an answer, 0 when it ended EMPTY, 2 when n steps were made and neither, 3 when it ended DEEP, 4 LARGE");
        atStep("p. q:-p.", "q.", 2, 1);
        atStep("p. q:-p.", "q,fail.", 3, 0);
        atStep("l:-l.", "l.", 61, 3);
        // The goal has 2, 4, 8 .. symbols.
        atStep("i(X):-i(f(X,X)).", "i(a).", 6, 4);
        atStep("", "true.", 1, 1);
        atStep("", "none.", 1, 0);
        due.same("100 steps and neither", Due.search("l:-true,true,l.", "l.").run(100), 2);
    }

    /** With the last of so many steps the end comes, with one less it does not, with more no other. */
    private void atStep(String clauses, String question, int steps, int end) {
        if (steps > 1) {
            due.same(question + " one step less", Due.search(clauses, question).run(steps - 1), 2);
        }
        due.same(question + " at the last step", Due.search(clauses, question).run(steps), end);
        due.same(question + " with steps left", Due.search(clauses, question).run(steps + 1), end);
        due.same(question + " with many left", Due.search(clauses, question).run(100), end);
    }

    private void endedAnswersTheSame() {
        due.sentence("(a search that has ended answers the same again)");
        String[] clauses = {TWO, "l:-l. l.", "i(X):-i(f(X,X)). i(_).", TWO};
        String[] questions = {"p(X),fail.", "l.", "i(X).", "p(a)."};
        int[] ends = {0, 3, 4, 0};
        for (int k = 0; k < ends.length; k++) {
            PrunedSearch x = after(70, clauses[k], questions[k]);
            String shown = Due.shown(x);
            int[] counts = {1, 2, 100};
            for (int n : counts) {
                due.same(questions[k] + " again: run(" + n + ")", x.run(n), ends[k]);
                due.same(questions[k] + " again: all is as before", Due.shown(x), shown);
            }
        }
    }

    private void runWithoutSearch() {
        due.sentence("NONE, refused, when there is no search");
        for (Map.Entry<String, Supplier<PrunedSearch>> entry : states().entrySet()) {
            boolean search = hasSearch(entry.getKey());
            due.same(entry.getKey() + ": run(1) is NONE", entry.getValue().get().run(1) == NONE ? 1 : 0, search ? 0 : 1);
            due.same(entry.getKey() + ": run(100) is NONE", entry.getValue().get().run(100) == NONE ? 1 : 0, search ? 0 : 1);
        }
        due.same("NONE", NONE, -1);
    }

    private void runOutOfRange() {
        due.sentence("or n is not 1 .. 100");
        int[] counts = {Integer.MIN_VALUE, -101, -100, -1, 0, 1, 2, 99, 100, 101, 102, 256, 357, 65537, Integer.MAX_VALUE};
        for (int n : counts) {
            boolean right = n >= 1 && n <= 100;
            due.same("run(" + n + ")", Due.search("p.", "p.").run(n), right ? 1 : NONE);
            PrunedSearch x = after(1, TWO, "p(X).");
            due.same("run(" + n + ") at an answer", x.run(n), right ? 1 : NONE);
            due.same("then", Due.text(x, 0), right ? "b" : "a");
            due.same("run(" + n + ") when it ended", after(1, "p.", "q.").run(n), right ? 0 : NONE);
        }
    }

    private void answerNumbers() {
        due.sentence("VARIABLE v of the question (numbered from 0 in the order in which they first stand there, _ alone not counted)");
        PrunedSearch x = after(5, "e(X,X).", "e(B,b),e(_,f(A,_)),e(A,a),e(Z,_),e(B,Y).");
        String[] texts = {"b", "a", "_0", "b", ""};
        for (int v = 0; v < texts.length; v++) {
            due.same("VARIABLE " + v, Due.text(x, v), texts[v]);
        }
        PrunedSearch all = after(8, "e(X,X).", "e(A,a),e(B,b),e(C,c),e(D,d),e(E,e),e(F,f),e(G,g),e(H,h).");
        for (int v = 0; v < 8; v++) {
            due.same("VARIABLE " + v + " of eight", Due.text(all, v), "abcdefgh".substring(v, v + 1));
        }
    }

    private void answerOnlyThere() {
        due.sentence("when the search stands at an answer; 0 when it doesn't, there is no v, or the text has no place i");
        for (Map.Entry<String, Supplier<PrunedSearch>> entry : states().entrySet()) {
            PrunedSearch x = entry.getValue().get();
            due.same(entry.getKey(), x.answer(0, 0), entry.getKey().equals(SEARCH + "at an answer") ? 'a' : 0);
        }
        PrunedSearch x = after(1, "e(X,X).", "e(f(X,Y),f(abc,[])).");
        int[] far = {-1, 2, 8, 9, 255, 256, 65536, Integer.MIN_VALUE, Integer.MAX_VALUE};
        for (int v : far) {
            due.same("no VARIABLE " + v, x.answer(v, 0), 0);
        }
        String text = "abc";
        for (int i = -2; i <= 5; i++) {
            due.same("place " + i, x.answer(0, i), i >= 0 && i < 3 ? text.charAt(i) : 0);
            due.same("place " + i + " of []", x.answer(1, i), i == 0 ? '[' : i == 1 ? ']' : 0);
        }
        int[] places = {239, 240, 241, 1199, 1200, 1201, 65536, Integer.MIN_VALUE, Integer.MAX_VALUE};
        for (int i : places) {
            due.same("place " + i, x.answer(0, i), 0);
            due.same("place " + i, x.answer(1, i), 0);
        }
        Due.asked(x, "e(Z,f(a)).");
        due.same("run", x.run(1), 1);
        due.same("VARIABLE 0", Due.text(x, 0), "f(a)");
        for (int v = 1; v < 9; v++) {
            due.same("no VARIABLE " + v + " any more", Due.text(x, v), "");
        }
        Due.asked(x, "e(a,a).");
        due.same("run", x.run(1), 1);
        due.same("no VARIABLE at all", Due.text(x, 0), "");
        PrunedSearch back = after(1, TWO, "p(X),true.");
        due.same("before the answer", back.answer(0, 0), 0);
        back.run(1);
        due.same("at the answer", back.answer(0, 0), 'a');
        back.run(1);
        due.same("on the way to the next", back.answer(0, 0), 0);
        back.run(1);
        due.same("at the next", back.answer(0, 0), 'b');
        back.run(1);
        due.same("at the end", back.answer(0, 0), 0);
    }

    /** X is told as the text. */
    private void told(String term, String text) {
        PrunedSearch x = Due.search("e(X,X).", "e(X," + term + ").");
        due.same("run", x.run(1), 1);
        due.same("the text of " + term, Due.text(x, 0), text);
        due.same("no place behind " + term, x.answer(0, text.length()), 0);
    }

    private void answerText() {
        due.sentence("The text: a name; name(a,b) with the texts of its arguments");
        told("a", "a");
        told("0", "0");
        told("abcdefgh", "abcdefgh");
        told("f(a)", "f(a)");
        told("f( a , b )", "f(a,b)");
        told("f(a,b,c,d)", "f(a,b,c,d)");
        told("f(g(a),h(i(b),c))", "f(g(a),h(i(b),c))");
        String open = "f2345678(".repeat(14);
        told(open + "a2345678" + ")".repeat(14), open + "a2345678" + ")".repeat(14));
        longest(9, true);
        longest(10, false);
    }

    /** One name of 8 letters in another, 110 of them and so many more, and one that is innermost. */
    private void longest(int more, boolean fits) {
        String name = "s2345678(";
        PrunedSearch x = Due.with("n(N," + name.repeat(11) + "N" + ")".repeat(11) + ").");
        due.same("j", Due.consulted(x, "m(A,B):-n(C,B),n(D,C),n(E,D),n(F,E),n(A,F). k(A,B):-m(C,B),m(A,C). j(X):-k(A,X),z(A)."), 3);
        due.same("z", Due.consulted(x, "z(" + name.repeat(more) + "z2345678" + ")".repeat(more) + ")."), 1);
        Due.asked(x, "j(X).");
        due.same(111 + more + " symbols", x.run(100), fits ? 1 : 4);
        String text = fits ? name.repeat(110 + more) + "z2345678" + ")".repeat(110 + more) : "";
        int from = Math.max(text.length() - 300, 0);
        due.same("the end of its text", Due.text(x, 0, from), text.substring(from));
    }

    private void answerLists() {
        due.sentence("[] and lists as [a,b] or, when what is behind the last | is not [], [a,b|c]");
        told("[]", "[]");
        told("[ ]", "[]");
        told("[a]", "[a]");
        told("[a|[]]", "[a]");
        told("[a,b]", "[a,b]");
        told("[a|[b]]", "[a,b]");
        told("[a|b]", "[a|b]");
        told("[a,b|c]", "[a,b|c]");
        told("[a|[b|c]]", "[a,b|c]");
        told("[a|[b|[]]]", "[a,b]");
        told("[a|f(b)]", "[a|f(b)]");
        told("[[]]", "[[]]");
        told("[[],[]|[]]", "[[],[]]");
        told("[[a|b],[c]|[d]]", "[[a|b],[c],d]");
        told("[a|_]", "[a|_0]");
        told("f([],[a|b])", "f([],[a|b])");
    }

    private void answerFree() {
        due.sentence("a variable for which nothing stands is _ and a number, 0, 1, .. in the order in which these variables first stand in the texts for VARIABLE 0, VARIABLE 1 and so on");
        told("_", "_0");
        told("f(_,_)", "f(_0,_1)");
        told("[_,_|_]", "[_0,_1|_2]");
        PrunedSearch x = after(3, "e(X,X). v(_).", "v(C),e(A,f(B,C)),v(B).");
        due.same("VARIABLE 0 is C", Due.text(x, 0), "_0");
        due.same("VARIABLE 1 is A", Due.text(x, 1), "f(_1,_0)");
        due.same("VARIABLE 2 is B", Due.text(x, 2), "_1");
        PrunedSearch y = after(3, "e(X,X). v(_).", "v(C),e(A,f(B,C)),v(B).");
        due.same("the same when it is asked first", Due.text(y, 2), "_1");
        PrunedSearch z = after(1, "l([_,_,_,_,_,_|T],T).", "l(X,[]).");
        due.same("up to 5", Due.text(z, 0), "[_0,_1,_2,_3,_4,_5]");
        PrunedSearch w = after(2, "l([_,_,_,_,_,_|T],T).", "l(X,Y),l(Y,[]).");
        due.same("9, 10, 11", Due.text(w, 0), "[_0,_1,_2,_3,_4,_5,_6,_7,_8,_9,_10,_11]");
        due.same("9, 10, 11", Due.text(w, 1), "[_6,_7,_8,_9,_10,_11]");
        PrunedSearch again = after(1, "e(X,X).", "e(X,f(A,A,B,A)).");
        due.same("one that stands there again counts once", Due.text(again, 0), "f(_0,_0,_1,_0)");
        PrunedSearch next = after(1, "p(_). p(f(_,_)).", "p(X).");
        due.same("at the first answer", Due.text(next, 0), "_0");
        due.same("run", next.run(1), 1);
        due.same("counted anew at the next answer", Due.text(next, 0), "f(_0,_1)");
    }

    private void answerPlaces() {
        due.sentence("The character at place i of the text of what stands for VARIABLE v of the question");
        String[] texts = {"f([a],_0)", "_0", "g2345678"};
        PrunedSearch x = after(3, "e(X,X). v(_).", "e(X,f([a],Y)),v(Y),e(Z,g2345678).");
        for (int v = 2; v >= 0; v--) {
            for (int i = texts[v].length(); i >= 0; i--) {
                due.same("place " + i + " of VARIABLE " + v, x.answer(v, i), i < texts[v].length() ? texts[v].charAt(i) : 0);
            }
        }
    }

    private void answerWithoutBlanks() {
        due.sentence("No blanks.");
        told(" f ( a , [ b , c | d ] ) ", "f(a,[b,c|d])");
        told(" [ _ , X2 | [ ] ] ", "[_0,_1]");
        told("f(a)", "f(a)");
    }

    /** clauses, tries, choices, length and goals in every state: which 0 is clauses. */
    private void counted(String sentence, int which) {
        due.sentence(sentence);
        int[][] counts = {
            {0, 0, 0, 0, 0}, {0, 0, 0, 0, 0}, {0, 0, 0, 0, 0}, {2, 0, 0, 0, 0}, {24, 0, 0, 0, 0}, {2, 0, 0, 0, 0}, {2, 0, 0, 0, 0},
            {3, 0, 0, 0, 0}, {2, 0, 0, 0, 0}, {2, 0, 0, 0, 0}, {2, 0, 0, 0, 0}, {0, 0, 0, 0, 0},
            {2, 0, 0, 0, 2}, {2, 0, 0, 0, 1}, {2, 1, 1, 1, 1}, {2, 1, 1, 1, 0}, {2, 2, 2, 2, 0}, {2, 1, 0, 1, 0}, {2, 0, 0, 0, 0},
            {2, 60, 60, 60, 0}, {1, 6, 0, 6, 1},
        };
        int k = 0;
        for (Map.Entry<String, Supplier<PrunedSearch>> entry : states().entrySet()) {
            PrunedSearch x = entry.getValue().get();
            int[] got = {x.clauses(), x.tries(), x.choices(), x.length(), x.goals()};
            due.same(entry.getKey(), got[which], counts[k][which]);
            due.same(entry.getKey() + ", asked twice", new int[] {x.clauses(), x.tries(), x.choices(), x.length(), x.goals()}[which], counts[k][which]);
            k++;
        }
    }

    private void forgetTakesAway() {
        due.sentence("Takes all clauses away, and all names");
        int[] sizes = {0, 1, 24};
        for (int size : sizes) {
            PrunedSearch x = Due.with("p(a).".repeat(size));
            x.forget();
            due.same("no clause of " + size, x.clauses(), 0);
            Due.asked(x, "p(X).");
            due.same("no clause of " + size, x.run(1), 0);
            due.same("room for 24", Due.consulted(x, "p(b).".repeat(24)), 24);
            due.same("and no more", Due.consulted(x, "p(b)."), MUCH);
            Due.asked(x, "p(X).");
            due.same("new ones alone", Due.answers(x, 1), "b ; ".repeat(24) + "0");
        }
        PrunedSearch y = Due.with(NewObjectTest.names(32));
        due.same("a name too many", Due.consulted(y, "m."), MUCH);
        y.forget();
        due.same("33 others", Due.consulted(y, NewObjectTest.names(33).replace('n', 'm')), MUCH);
        due.same("32 others", Due.consulted(y, NewObjectTest.names(32).replace('n', 'm')), 1);
        due.same("and no more", Due.asked(y, "n0."), MUCH);
        PrunedSearch asked = new PrunedSearch();
        due.same("names of a question", Due.asked(asked, "a1(a2,a3,a4,a5),b1(b2,b3,b4,b5),c1(c2,c3,c4,c5),d1(d2,d3,d4,d5)."), 0);
        asked.forget();
        due.same("are taken away too", Due.consulted(asked, NewObjectTest.names(32)), 1);
    }

    private void forgetEndsTheSearch() {
        due.sentence("and all names; a search ends: there is none any more");
        for (Map.Entry<String, Supplier<PrunedSearch>> entry : states().entrySet()) {
            PrunedSearch x = entry.getValue().get();
            x.forget();
            due.counts(entry.getKey(), x, 0, 0, 0, 0);
            due.same(entry.getKey() + ": run", x.run(1), NONE);
            due.same(entry.getKey() + ": answer", x.answer(0, 0), 0);
            x.forget();
            due.same(entry.getKey() + ": clauses, twice forgotten", x.clauses(), 0);
        }
    }

    private void forgetLeavesTheText() {
        due.sentence("The text stays.");
        PrunedSearch x = typed(Due.with(TWO), "p(c). p(d).");
        x.forget();
        due.same("the text is read", x.consult(), 2);
        Due.asked(x, "p(X).");
        due.same("behind no others", Due.answers(x, 1), "c ; d ; 0");
        PrunedSearch full = typed(new PrunedSearch(), "p(c)." + " ".repeat(235));
        full.forget();
        due.fails("a full text stays full", full.type(' '));
        due.same("a full text stays full", full.consult(), 1);
        PrunedSearch part = typed(new PrunedSearch(), "p(");
        part.forget();
        due.holds("a part of one", part.type(Due.row("c).", 0)));
        due.same("goes on", part.consult(), 1);
        PrunedSearch none = new PrunedSearch();
        none.forget();
        due.same("no text stays none", none.ask(), -1);
    }
}
