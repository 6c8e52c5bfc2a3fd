/** Promises 3 and 4: what is wrong, and where; what is too much. */
final class ReadingTest {
    /** A text, and what consult answers: how many clauses, or -1 - fault. */
    private static final Object[][] CLAUSES = {
        {"", 0}, {"   ", 0}, {"a.", 1}, {"a.b.", 2}, {" a . b:-c . ", 2}, {"a:-!.", 1}, {"a:-!,b,!.", 1}, {"0.", 1}, {"00a_Z.", 1},
        {"p(X):-q(X,_),r([a,B|_1]).", 1}, {"p([]).", 1}, {"p([ ]).", 1}, {"p ( a , b ) :- q .", 1}, {"p([[],[a]|[b]]).", 1},
        {"abcdefgh.", 1}, {"true.", 1}, {"true:-fail.", 1}, {"a_._", -4}, {"a_.b_.", 2},
        {"a", -2}, {"a  ", -4}, {"a:-", -4}, {"a:- ", -5}, {"a(", -3}, {"a(b", -4}, {"a(b,", -5}, {"a(b)", -5}, {"a([", -4}, {"a([b", -5},
        {"a([b|", -6}, {"a([b|c", -7}, {"a([b|c]", -8}, {"a:-!", -5}, {"a:-b,", -6}, {"a. b", -5},
        {"A.", -1}, {"_.", -1}, {"  _a.", -3}, {"!.", -1}, {"[].", -1}, {"[a].", -1}, {"(a).", -1}, {".", -1}, {"a..", -3}, {",", -1}, {":-a.", -1},
        {"a b.", -3}, {"a!.", -2}, {"a,b.", -2}, {"a[].", -2}, {"a|b.", -2}, {"a).", -2}, {"a X.", -3},
        {"a().", -3}, {"a(,b).", -3}, {"a(b,).", -5}, {"a(b.", -4}, {"a(b]).", -4}, {"a(b|c).", -4}, {"a(!).", -3}, {"a(b c).", -5}, {"a(:-).", -3},
        {"a(b)(c).", -5}, {"a(X(b)).", -4}, {"a((b)).", -3}, {"a(b:-c).", -4},
        {"a([,]).", -4}, {"a([b,]).", -6}, {"a([|b]).", -4}, {"a([b|]).", -6}, {"a([b|c,d]).", -7}, {"a([b|c|d]).", -7}, {"a([b)).", -5}, {"a([](b)).", -5},
        {"a([b|!]).", -6}, {"a([b|,c).", -6}, {"a([b|,c]).", -6}, {"a([b|).", -6}, {"a([ ).", -5},
        {"a:-.", -4}, {"a:-X.", -4}, {"a:-[].", -4}, {"a:-b,.", -6}, {"a:-b,X.", -6}, {"a:-b c.", -6}, {"a:-b:-c.", -5}, {"a:-!b.", -5}, {"a:-!(b).", -5},
        {"a:-(b).", -4}, {"a:-,b.", -4}, {"a:-b!.", -5}, {"a:-b|c.", -5},
        {":", -1}, {"-", -1}, {"a:", -2}, {"a:b.", -2}, {"a: -b.", -2}, {"a-:b.", -2}, {"a::-b.", -2}, {"a:--b.", -4}, {"a:-:-b.", -4}, {"a -b.", -3}, {"a(:).", -3},
        {"a(-).", -3}, {"a:-b:", -5}, {"a:-b-", -5},
        {"abcdefghi.", -1}, {"a(abcdefghi).", -3}, {"a(b,Abcdefghi).", -5}, {"a(________).", 1}, {"a(_________).", -3}, {"a abcdefghi.", -3},
        {"a:-abcdefghijklmnopqrs.", -4}, {"a. abcdefghi", -4}, {"a(12345678).", 1}, {"a(123456789).", -3},
    };

    /** A text, and what ask answers: how many VARIABLES, or -1 - fault. */
    private static final Object[][] QUESTIONS = {
        {"a.", 0}, {" a . ", 0}, {"!.", 0}, {"!,!.", 0}, {"a,!,b.", 0}, {"p(X).", 1}, {"p(X,Y),q(X).", 2}, {"p(_).", 0}, {"p(_,_,_1,__).", 2},
        {"p([A,B|C],f(A),D).", 4}, {"p(Aa,AA,A,a).", 3}, {"true,fail.", 0},
        {"", -1}, {"  ", -3}, {"a", -2}, {"a ", -3}, {"a,", -3}, {"a(X", -4}, {"!", -2}, {"!,", -3},
        {"a.b.", -3}, {"a. b", -4}, {"a. .", -4}, {"a.!", -3}, {"a. :", -4}, {"a. abcdefghi", -4}, {"a:-b.", -2}, {"A.", -1}, {"_.", -1}, {"[a].", -1}, {".", -1},
        {",a.", -1}, {"a,,b.", -3}, {"a,X.", -3}, {"a,[].", -3}, {"!a.", -2}, {"! !.", -3}, {"a!.", -2}, {"(a).", -1}, {"a b.", -3}, {"a|b.", -2}, {"a,b:c.", -4},
        {"-a.", -1}, {"a-b.", -2},
    };

    public static void main(String[] args) {
        Due due = new Due();
        for (Object[] row : CLAUSES) {
            due.same("consult \"" + row[0] + "\"", Due.consulted(new PrunedSearch(), (String) row[0]), (Integer) row[1]);
        }
        for (Object[] row : QUESTIONS) {
            due.same("ask \"" + row[0] + "\"", Due.asked(new PrunedSearch(), (String) row[0]), (Integer) row[1]);
        }
        open(due);
        tooMuch(due);
        clauseCount(due);
        nameCount(due);
        whatIsLeft(due);
        due.finish();
    }

    private static void open(Due due) {
        String deep = "p(" + "[".repeat(14);
        String[] ends = {"a" + "]".repeat(14) + ").", "]".repeat(14) + ")."};
        for (String end : ends) {
            due.same("15 are open: " + end, Due.consulted(new PrunedSearch(), deep + end), 1);
            due.same("15 are open in a question: " + end, Due.asked(new PrunedSearch(), deep + end), 0);
        }
        String[] wrong = {"[a", "[", "[]", "f(a", "f("};
        for (String end : wrong) {
            PrunedSearch x = new PrunedSearch();
            Due.typed(x, deep + end);
            due.same("a sixteenth: " + end, x.consult(), end.charAt(0) == 'f' ? -18 : -17);
        }
        String names = "f(".repeat(15);
        due.same("15 of (", Due.consulted(new PrunedSearch(), names + "a" + ")".repeat(15) + "."), 1);
        due.same("16 of (", Due.consulted(new PrunedSearch(), names + "f(a"), -32);
        String[] pairs = {"[[[[[[[[a]]]]]]]]", "f(f(f(f(f(f(f(f(a))))))))"};
        for (String pair : pairs) {
            String text = "p(" + pair + "," + pair + ").";
            due.same("closed ones do not count: " + pair, Due.consulted(new PrunedSearch(), text), 1);
            due.same("nor in other goals: " + pair, Due.asked(new PrunedSearch(), "p(" + pair + "),q(" + pair + ")."), 0);
        }
        due.same("a wrong text leaves none open", twice(new PrunedSearch(), names + "f(", "p(" + pairs[1] + ")."), 1);
    }

    private static int twice(PrunedSearch x, String first, String second) {
        Due.consulted(x, first);
        return Due.consulted(x, second);
    }

    /** The text right, and once with more: then MUCH both as clauses and, where it can be one, as a question. */
    private static void edge(Due due, String right, String much) {
        due.same("consult " + right, Due.consulted(new PrunedSearch(), right), 1);
        due.same("consult " + much, Due.consulted(new PrunedSearch(), much), PrunedSearch.MUCH);
        due.holds("ask " + right, Due.asked(new PrunedSearch(), right) >= 0);
        due.same("ask " + much, Due.asked(new PrunedSearch(), much), PrunedSearch.MUCH);
        due.same("wrong before it is much: " + much, Due.consulted(new PrunedSearch(), much + "a"), -2 - much.length());
    }

    static String list(int elements) {
        return "[" + "a,".repeat(elements - 1) + "a]";
    }

    private static void tooMuch(Due due) {
        edge(due, "p(" + list(19) + ").", "p(" + list(19) + ",a).");
        edge(due, "p(" + list(18) + ",X,_).", "p(" + list(18) + ",X,f(_)).");
        edge(due, "p([a,b|" + list(17) + "]).", "p([a,b|" + list(17) + "],a).");
        edge(due, "p(f(" + "[],".repeat(3) + "[])," + list(16) + ",a).", "p(f(" + "[],".repeat(3) + "[])," + list(17) + ").");
        edge(due, "p(A,B,C,f(D,E,F,g(G,H,A))).", "p(A,B,C,f(D,E,F,g(G,H,I))).");
        edge(due, "p(A,_,_,f(_,_,_,g(_,_,A))).", "p(A,_,_,f(_,_,_,g(_,_,_))).");
        edge(due, "p(a,b,c,d).", "p(a,b,c,d,e).");
        edge(due, "p(a,f(1,2,3,4)).", "p(a,f(1,2,3,4,5)).");
        edge(due, "p([a,b,c,d,e,f]).", "p([a,b,f(1,2,3,4,5)]).");
        due.same("nine goals", Due.consulted(new PrunedSearch(), "p:-a,!,a,!,a,!,a,!,a."), PrunedSearch.MUCH);
        due.same("eight goals", Due.consulted(new PrunedSearch(), "p:-a,!,a,!,a,!,a,!."), 1);
        due.same("nine goals asked", Due.asked(new PrunedSearch(), "a,!,a,!,a,!,a,!,a."), PrunedSearch.MUCH);
        due.same("eight goals asked", Due.asked(new PrunedSearch(), "a,!,a,!,a,!,a,!."), 0);
        String half = "p(" + list(10) + "):-q(" + list(7) + ")";
        due.same("40 symbols, one a cut", Due.consulted(new PrunedSearch(), half + ",a,!."), 1);
        due.same("41 symbols, two of them cuts", Due.consulted(new PrunedSearch(), half + ",a,!,!."), PrunedSearch.MUCH);
        due.same("each clause for itself", Due.consulted(new PrunedSearch(), "p(" + list(19) + ").p(A,B,C,D,E).q(A,B,C,D):-r(E,F,G,H)."), PrunedSearch.MUCH);
        due.same("each clause for itself, right", Due.consulted(new PrunedSearch(), "p(" + list(19) + ").p(A,B,C,D):-r(E,F,G,H).p(I,J,K,L):-!,!,!,!,!.p:-!,!,!,!,!."), 4);
    }

    private static void clauseCount(Due due) {
        PrunedSearch x = new PrunedSearch();
        due.same("25 at once", Due.consulted(x, "a.".repeat(25)), PrunedSearch.MUCH);
        due.same("120 at once", Due.consulted(x, "a.".repeat(120)), PrunedSearch.MUCH);
        due.same("120, and wrong", Due.consulted(x, "a.".repeat(119) + "A."), -239);
        due.same("none is there", x.clauses(), 0);
        due.same("24 at once", Due.consulted(x, "a.".repeat(24)), 24);
        due.same("one more", Due.consulted(x, "a."), PrunedSearch.MUCH);
        due.same("none more", Due.consulted(x, " "), 0);
        due.same("24 are there", x.clauses(), 24);
        due.same("a question still goes", Due.asked(x, "a."), 0);
        PrunedSearch y = Due.with("a.".repeat(20));
        due.same("five more", Due.consulted(y, "b.".repeat(5)), PrunedSearch.MUCH);
        due.same("four more", Due.consulted(y, "b.".repeat(4)), 4);
    }

    private static void nameCount(Due due) {
        PrunedSearch x = new PrunedSearch();
        due.same("33 names", Due.consulted(x, NewObjectTest.names(33)), PrunedSearch.MUCH);
        due.same("32 names", Due.consulted(x, NewObjectTest.names(32)), 1);
        due.same("one more", Due.consulted(x, "other."), PrunedSearch.MUCH);
        due.same("one more asked", Due.asked(x, "other."), PrunedSearch.MUCH);
        due.same("true is a name", Due.asked(x, "true."), PrunedSearch.MUCH);
        due.same("old ones, with other arguments", Due.asked(x, "n0,n0(n1),n1(n0,X),n2([n1|_]),!."), 1);
        due.same("lists and cuts are none", Due.consulted(x, "n0([n1,n2|X],[]):-!."), 1);

        PrunedSearch y = new PrunedSearch();
        due.same("31 names asked", Due.asked(y, "a1(a2,a3,a4),a5(a6,a7,a8,a9),b1(b2,b3,b4,b5),b6(b7,b8,b9,c1),c2(c3,c4,c5,c6),c7(c8,c9,d1,d2),d3(d4)."), 0);
        due.same("two more", Due.consulted(y, "d5:-d6."), PrunedSearch.MUCH);
        due.same("two more and a fault", Due.consulted(y, "d5:-d6"), -7);
        due.same("one more", Due.consulted(y, "d5:-d4."), 1);
        due.same("not the ones that were too much", Due.consulted(y, "d6."), PrunedSearch.MUCH);
        due.same("nor the other one of a wrong text", Due.asked(y, "d5(d5,d4)."), 0);

        PrunedSearch z = new PrunedSearch();
        due.same("39 names", Due.consulted(z, "a.b.c.d.e.f.g.h.i.j.k.l.m.n.o.p.q.r.s.t.u.v.w:-x(y,z,0,1),2(3,4,5,6),7(8,9,ab)."), PrunedSearch.MUCH);
        due.same("names are whole words", Due.consulted(z, "ab(aB,a_,a)."), 1);
        due.same("and differ", Due.asked(z, "ab(aB,a_,a_)."), 0);
        due.same("so it fails", z.run(9), 0);
    }

    private static void whatIsLeft(Due due) {
        String[] texts = {"p(c).", "p(c)", "p(1,2,3,4,5)."};
        for (String text : texts) {
            PrunedSearch x = Due.search("p(a). p(b).", "p(X).");
            due.same("an answer", x.run(1), 1);
            int answer = Due.consulted(x, text);
            due.same("clauses after consult " + text, x.clauses(), answer == 1 ? 3 : 2);
            due.counts("after consult " + text, x, 0, 0, 0, 0);
            due.same("no search after consult " + text, x.run(1), PrunedSearch.NONE);
            due.same("no answer after consult " + text, x.answer(0, 0), 0);
            due.same("no text after consult " + text, x.consult(), 0);
            due.same("clauses in their order after " + text, allOf(x), answer == 1 ? "a ; b ; c ; 0" : "a ; b ; 0");

            PrunedSearch y = Due.search("p(a). p(b).", "p(X).");
            due.same("an answer", y.run(1), 1);
            due.same("the next one", y.run(1), 1);
            due.same("the end", y.run(1), 0);
            boolean taken = Due.asked(y, text) >= 0;
            due.same("clauses after ask " + text, y.clauses(), 2);
            due.counts("after ask " + text, y, 0, 0, 0, taken ? 1 : 0);
            due.same("no answer after ask " + text, y.answer(0, 0), 0);
            due.same("search after ask " + text, y.run(1), taken ? 0 : PrunedSearch.NONE);
            due.same("no text after ask " + text, y.consult(), 0);
        }
    }

    private static String allOf(PrunedSearch x) {
        Due.asked(x, "p(X).");
        return Due.answers(x, 1);
    }
}
