/** Promise 1: no text, no clauses, no names, no search. */
final class NewObjectTest {
    public static void main(String[] args) {
        Due due = new Due();
        PrunedSearch x = new PrunedSearch();
        due.same("clauses()", x.clauses(), 0);
        due.counts("new", x, 0, 0, 0, 0);
        due.same("run(1)", x.run(1), PrunedSearch.NONE);
        due.same("answer(0, 0)", x.answer(0, 0), 0);
        due.same("ask() of no text", x.ask(), -1);
        due.same("consult() of no text", x.consult(), 0);
        due.same("clauses() then", x.clauses(), 0);

        PrunedSearch y = new PrunedSearch();
        due.holds("a whole text fits", Due.typed(y, " ".repeat(240)));
        due.same("blanks", y.consult(), 0);
        due.same("32 names fit", Due.consulted(y, names(32)), 1);

        PrunedSearch one = Due.search("p(a).", "p(X).");
        PrunedSearch other = new PrunedSearch();
        due.same("objects share no clauses", other.clauses(), 0);
        due.same("objects share no search", other.run(1), PrunedSearch.NONE);
        due.same("the first one goes on", one.run(1), 1);
        due.same("NONE", PrunedSearch.NONE, -1);
        due.same("MUCH", PrunedSearch.MUCH, -1000);
        due.finish();
    }

    /** One clause with so many different names, 8 goals at most. */
    static String names(int count) {
        StringBuilder text = new StringBuilder();
        for (int k = 0; k < count; k++) {
            text.append(k == 0 ? "" : k == 4 ? "):-" : k % 4 == 0 ? ")," : k % 4 == 1 ? "(" : ",");
            text.append("n").append(k);
        }
        return text.append(count % 4 == 1 ? "." : ").").toString();
    }
}
