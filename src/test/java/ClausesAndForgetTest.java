/** Promises 7 and 12: clauses and forget. */
final class ClausesAndForgetTest {
    public static void main(String[] args) {
        Due due = new Due();
        clauses(due);
        forget(due);
        due.finish();
    }

    private static void clauses(Due due) {
        PrunedSearch x = new PrunedSearch();
        due.same("none", x.clauses(), 0);
        Due.typed(x, "p(a). p(b).");
        due.same("typed only", x.clauses(), 0);
        x.consult();
        due.same("two", x.clauses(), 2);
        Due.consulted(x, "p(c)");
        due.same("a wrong text", x.clauses(), 2);
        Due.consulted(x, "p(c). p(1,2,3,4,5).");
        due.same("a text that is too much", x.clauses(), 2);
        Due.asked(x, "p(X).");
        due.same("a question is none", x.clauses(), 2);
        x.run(1);
        Due.consulted(x, "p(a).");
        due.same("an equal one counts", x.clauses(), 3);
    }

    private static void forget(Due due) {
        PrunedSearch x = Due.search("p(a). p(b).", "p(X).");
        x.run(1);
        Due.typed(x, "p(c). p(d).");
        x.forget();
        due.same("no clauses", x.clauses(), 0);
        due.counts("no search", x, 0, 0, 0, 0);
        due.same("no search", x.run(1), PrunedSearch.NONE);
        due.same("no answer", x.answer(0, 0), 0);
        due.same("the text stays", x.consult(), 2);
        due.same("new clauses alone", x.clauses(), 2);
        Due.asked(x, "p(X).");
        due.same("new clauses alone", Due.answers(x, 1), "c ; d ; 0");
        x.forget();
        x.forget();
        due.same("twice", x.clauses(), 0);

        PrunedSearch y = new PrunedSearch();
        due.same("32 names", Due.consulted(y, NewObjectTest.names(32)), 1);
        due.same("no more", Due.consulted(y, "o."), PrunedSearch.MUCH);
        y.forget();
        due.same("32 others", Due.consulted(y, NewObjectTest.names(32).replace('n', 'm')), 1);
        due.same("no more", Due.consulted(y, "n1."), PrunedSearch.MUCH);
        y.forget();
        due.same("24 clauses", Due.consulted(y, "a.".repeat(24)), 24);
        y.forget();
        due.same("24 others", Due.consulted(y, "b.".repeat(24)), 24);
        Due.asked(y, "b.");
        due.same("24 answers", Due.answers(y, 0), "; ".repeat(24) + "0");
        due.same("24 tries", y.tries(), 24);
    }
}
