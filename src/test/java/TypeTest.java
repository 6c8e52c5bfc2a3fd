/** Promise 2: type. */
final class TypeTest {
    private static final String KNOWN = "abcdefghijklmnopqrstuvwxyzABCDEFGHIJKLMNOPQRSTUVWXYZ0123456789_(),.:-![]| ";

    public static void main(String[] args) {
        Due due = new Due();
        characters(due);
        zeros(due);
        refusedChangesNothing(due);
        most(due);
        searchGoesOn(due);
        due.finish();
    }

    private static void characters(Due due) {
        for (int c = 1; c < 256; c++) {
            boolean known = KNOWN.indexOf((char) c) >= 0;
            PrunedSearch x = new PrunedSearch();
            due.same("type(" + c + ")", x.type(c) ? 1 : 0, known ? 1 : 0);
            for (int k = 1; k < 8; k++) {
                long row = Due.row("aaaaaaaa", 0) & ~(255L << 8 * k) | (long) c << 8 * k;
                due.same(c + " at place " + k, x.type(row) ? 1 : 0, known ? 1 : 0);
            }
        }
        due.fails("type(-1)", new PrunedSearch().type(-1));
    }

    private static void zeros(Due due) {
        PrunedSearch x = new PrunedSearch();
        due.holds("type(0)", x.type(0));
        due.holds("nothing behind 0 counts", x.type(Due.row("p.", 0) | 0xffffffff00000000L));
        due.holds("nothing behind 0 at all", x.type(0xffffffffffffff00L));
        due.same("p.", x.consult(), 1);
        due.holds("eight at once", x.type(Due.row("q(a,b,c)", 0)));
        due.holds("and one", x.type('.'));
        due.same("q(a,b,c).", x.consult(), 1);
        due.same("the lowest bits come first", Due.asked(x, "q(X,Y,Z)."), 3);
        due.same("run", x.run(1), 1);
        due.same("X, Y, Z", Due.text(x, 0) + Due.text(x, 1) + Due.text(x, 2), "abc");
    }

    private static void refusedChangesNothing(Due due) {
        PrunedSearch x = new PrunedSearch();
        due.holds("p", x.type('p'));
        due.fails("q%", x.type(Due.row("q%", 0)));
        due.fails("%q", x.type(Due.row("%q", 0)));
        due.holds(".", x.type('.'));
        due.same("p. alone is there", x.consult(), 1);
    }

    private static void most(Due due) {
        PrunedSearch x = new PrunedSearch();
        due.holds("233 blanks", Due.typed(x, " ".repeat(233)));
        due.fails("eight more", x.type(Due.row("        ", 0)));
        due.holds("seven more", x.type(Due.row("     p.", 0)));
        due.fails("one more", x.type('.'));
        due.holds("none more", x.type(0));
        due.same("240 characters", x.consult(), 1);
        due.holds("the text is empty again", Due.typed(x, " ".repeat(240)));
        due.same("fault at the very end", x.ask(), -241);
    }

    private static void searchGoesOn(Due due) {
        PrunedSearch x = Due.search("p(a). p(b).", "p(X).");
        due.same("run", x.run(1), 1);
        due.holds("type", Due.typed(x, "p(c)."));
        due.same("still at the answer", Due.text(x, 0), "a");
        due.same("goes on", x.run(1), 1);
        due.same("next answer", Due.text(x, 0), "b");
    }
}
