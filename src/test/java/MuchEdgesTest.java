/** WHAT TERMS ARE, and what is TOO MUCH: each sentence at its boundary and on both sides. */
final class MuchEdgesTest {
    private static final int MUCH = PrunedSearch.MUCH;

    private final Due due = new Due();

    public static void main(String[] args) {
        MuchEdgesTest test = new MuchEdgesTest();
        test.due.each(
            test::numberOfArguments, test::emptyList, test::lists, test::withoutRest, test::equalVariables,
            test::loneVariables, test::symbolsOfTerms, test::symbolsOfLists, test::symbolsOfCuts,
            test::mostSymbols, test::mostVariables, test::loneVariablesCount, test::mostGoals,
            test::mostArguments, test::anyOfThem, test::mostClauses, test::mostNames, test::whateverTheirArguments,
            test::listsAreNoNames, test::textsReadWithoutFault);
    }

    /** The answers to the question, with e(X,X) as the clause. */
    private void equal(String question, String answers) {
        PrunedSearch x = Due.with("e(X,X).");
        int variables = Due.asked(x, question);
        due.same(question, Due.answers(x, variables), answers);
    }

    private void numberOfArguments() {
        due.sentence("a NAME with a number of arguments, which are terms (a NAME alone has none)");
        equal("e(a,a).", "; 0");
        equal("e(a,b).", "0");
        equal("e(a,a(b)).", "0");
        equal("e(a(b),a(b)).", "; 0");
        equal("e(a(b),a(b,b)).", "0");
        equal("e(a(b,b,b,b),a(b,b,b,b)).", "; 0");
        equal("e(a(b,b,b,b),a(b,b,b)).", "0");
    }

    private void emptyList() {
        due.sentence("[ ] is the name [] without arguments");
        equal("e([],[ ]).", "; 0");
        equal("e([],[X]).", "0");
        equal("e([],a).", "0");
        equal("e([],X).", "[] ; 0");
        equal("e([[]],[[]]).", "; 0");
        equal("e([[]],[]).", "0");
    }

    private void lists() {
        due.sentence("[a, b | t] is the name . with the arguments a and [b | t], and [b | t] is . with b and t");
        equal("e([a,b|t],[X|Y]).", "a [b|t] ; 0");
        equal("e([b|t],[X|Y]).", "b t ; 0");
        equal("e([a,b|t],[a|[b|t]]).", "; 0");
        equal("e([a,b|t],[a|[b,t]]).", "0");
        equal("e([a,b|t],[X,Y|Z]).", "a b t ; 0");
        equal("e([a,b|t],[X,Y,Z|U]).", "0");
        equal("e([b|t],[b,t]).", "0");
    }

    private void withoutRest() {
        due.sentence("without | t, t is []");
        equal("e([a],[X|Y]).", "a [] ; 0");
        equal("e([a,b],[a,b|[]]).", "; 0");
        equal("e([a,b],[a,b|c]).", "0");
        equal("e([a,b],[X|Y]).", "a [b] ; 0");
        equal("e([a],[a,X]).", "0");
    }

    private void equalVariables() {
        due.sentence("Equal VARIABLES in one clause or question are one variable");
        equal("e(X,a),e(X,a).", "a ; 0");
        equal("e(X,a),e(X,b).", "0");
        equal("e(X,a),e(Y,b).", "a b ; 0");
        equal("e(_1,a),e(_1,b).", "0");
        equal("e(__,a),e(__,b).", "0");
        equal("e(X2345678,a),e(X2345679,b).", "a b ; 0");
        String clauses = "p(X,a):-q(X). q(b). r(X). s(X,X):-r(X).";
        due.same("of another question", Due.answers(Due.search(clauses, "p(Y,X)."), 2), "b a ; 0");
        due.same("of another clause", Due.answers(Due.search(clauses, "r(X),r(Y),s(X,a)."), 2), "a _0 ; 0");
        due.same("of one clause", Due.answers(Due.search(clauses, "s(a,b)."), 0), "0");
    }

    private void loneVariables() {
        due.sentence("but each _ alone is one of its own");
        equal("e(_,a),e(_,b).", "; 0");
        equal("e(f(_,_),f(a,b)).", "; 0");
        equal("e(f(_,_),f(X,Y)).", "_0 _1 ; 0");
        due.same("in a clause", Due.answers(Due.search("d(_,_).", "d(a,b)."), 0), "; 0");
        due.same("in a clause", Due.answers(Due.search("d(_,_).", "d(X,Y)."), 2), "_0 _1 ; 0");
        due.same("in a body", Due.answers(Due.search("d:-p(_),q(_). p(a). q(b).", "d."), 0), "; 0");
    }

    /** Whether the text, with goals or not, is right as one clause and as a question. */
    private void fits(String text, boolean fits) {
        int asked = Due.asked(new PrunedSearch(), text);
        due.same("ask \"" + text + "\"", asked < 0 ? asked : 1, fits ? 1 : MUCH);
        due.consults(text, fits ? 1 : MUCH);
    }

    private void fitsAsBody(String goals, boolean fits) {
        due.consults("p:-" + goals, fits ? 1 : MUCH);
    }

    private void fitsAsQuestion(String goals, boolean fits) {
        int asked = Due.asked(new PrunedSearch(), goals);
        due.same("ask \"" + goals + "\"", asked < 0 ? asked : 1, fits ? 1 : MUCH);
    }

    /** [a,a,..]: twice so many symbols, and one. */
    private static String list(int elements) {
        return ReadingTest.list(elements);
    }

    private void symbolsOfTerms() {
        due.sentence("The SYMBOLS of a term: 1 for each variable and each name as often as it stands there");
        String[] words = {"a", "X", "p"};
        for (String word : words) {
            String goal = "p(" + word + "," + word + "," + word + ",";
            String seven = (goal + word + "),").repeat(7);
            fitsAsQuestion(seven + "p(" + word + "," + word + "," + word + ").", true);
            fitsAsQuestion(seven + goal + word + ").", true);
            fitsAsQuestion(seven + goal + "f(" + word + ")).", false);
        }
        String lone = "p(_,_,_,_),p(_,_,_,_),";
        fitsAsQuestion(lone + "p(f(" + list(14) + ")).", false);
        fitsAsQuestion(lone + "p(" + list(14) + ").", true);
    }

    private void symbolsOfLists() {
        due.sentence("those of lists as said included");
        fits("p(" + list(19) + ").", true);
        fits("p(" + list(19) + ",a).", false);
        fits("p([a,b|" + list(17) + "]).", true);
        fits("p([a,b|" + list(17) + "],a).", false);
        fits("p(" + list(18) + ",[a|b]).", false);
        fits("p(" + list(17) + ",[a|b],a).", true);
        fits("p(" + list(17) + ",[a|b],a,b).", false);
        fits("p(" + list(18) + ",[],[]).", true);
        fits("p(" + list(18) + ",[],[],[]).", false);
        fits("p(" + list(17) + ",[a],a).", true);
        fits("p(" + list(17) + ",[[]],[]).", true);
        fits("p(" + list(17) + ",[[]],[],[]).", false);
    }

    private void symbolsOfCuts() {
        due.sentence("a ! counts 1");
        for (int cuts = 5; cuts <= 7; cuts++) {
            due.consults("p(" + list(16) + "):-!" + ",!".repeat(cuts - 1) + ".", cuts <= 6 ? 1 : MUCH);
            fitsAsQuestion("p(" + list(16) + ")" + ",!".repeat(cuts) + ".", cuts <= 6);
        }
    }

    private void mostSymbols() {
        due.sentence("TOO MUCH is a clause or question with more than 40 symbols");
        due.consults("p(" + list(9) + "):-q(" + list(9) + ").", 1);
        due.consults("p(" + list(9) + "):-q(" + list(9) + "),r.", MUCH);
        due.consults("p(" + list(9) + "):-q(f(" + list(9) + ")).", MUCH);
        fitsAsQuestion("p(" + list(9) + "),q(" + list(9) + ").", true);
        fitsAsQuestion("p(" + list(9) + "),q(" + list(9) + "),r.", false);
        due.consults("p(" + list(19) + ").q(" + list(19) + ").", 2);
        due.consults("p(" + list(19) + ").q(" + list(19) + ",a).", MUCH);
        due.consults("p(" + list(19) + ",a).q(" + list(19) + ").", MUCH);
        due.consults("p(" + list(110) + ").", MUCH);
        fitsAsQuestion("p(" + list(110) + ").", false);
        PrunedSearch x = Due.search("p(" + list(19) + ").", "p(X).");
        due.same("40 symbols are all there", x.run(1), 1);
        due.same("40 symbols are all there", Due.text(x, 0), list(19));
    }

    private static String variables(int count) {
        return "A,B,C,D,E,F,G,H,I,J,K,L".substring(0, 2 * count - 1);
    }

    private void mostVariables() {
        due.sentence("more than 8 variables");
        for (int count = 7; count <= 10; count++) {
            String text = "p([" + variables(count) + "]).";
            due.consults(text, count <= 8 ? 1 : MUCH);
            due.asks(text, count <= 8 ? count : MUCH);
        }
        due.consults("p(A,B,C,D):-q(E,F,G,H).", 1);
        due.consults("p(A,B,C,D):-q(E,F,G,H),r(I).", MUCH);
        due.consults("p(A,B,C,D):-q(E,F,G,H),r(A,H).", 1);
        due.asks("p(A,B,C,D),q(E,F,G,H),r(A,H).", 8);
        due.asks("p(A,B,C,D),q(E,F,G,H),r(A,I).", MUCH);
        due.consults("p(A,B,C,D):-q(E,F,G,H).p(I,J,K,L):-q(M,N,O,P).", 2);
        due.consults("p(A,B,C,D):-q(E,F,G,H).p(A,B,C,D):-q(E,F,G,[H,I]).", MUCH);
        due.asks("p(" + "[X,X,X,X,X,X],".repeat(2) + "[X,X,X]).", 1);
    }

    private void loneVariablesCount() {
        due.sentence("(each _ alone is one)");
        for (int named = 0; named <= 9; named++) {
            for (int lone = 7 - Math.min(named, 7); named + lone <= 10; lone++) {
                String first = named == 0 ? "a" : variables(named);
                String text = "p([" + first + "],[a" + ",_".repeat(lone) + "]).";
                String turned = "p([a" + ",_".repeat(lone) + "],[" + first + "]).";
                due.consults(text, named + lone <= 8 ? 1 : MUCH);
                due.consults(turned, named + lone <= 8 ? 1 : MUCH);
                due.asks(text, named + lone <= 8 ? named : MUCH);
                due.asks(turned, named + lone <= 8 ? named : MUCH);
            }
        }
        due.asks("p([A,_,A,_,A,_,A,_,A,_,A,_,A,_]).", 1);
        due.asks("p([A,_,A,_,A,_,A,_,A,_,A,_,A,_,_]).", MUCH);
    }

    private void mostGoals() {
        due.sentence("more than 8 goals");
        String[] goals = {"a", "!", "true", "p(X)"};
        for (String goal : goals) {
            for (int count = 7; count <= 10; count++) {
                String text = goal + ("," + goal).repeat(count - 1) + ".";
                fitsAsQuestion(text, count <= 8);
                fitsAsBody(text, count <= 8);
            }
        }
        fitsAsBody("a,a,a,a,a,a,a,a.q:-a,a,a,a,a,a,a,a,a.", false);
        due.consults("p:-a,a,a,a,a,a,a,a.q:-a,a,a,a,a,a,a,a.", 2);
        PrunedSearch x = Due.search("", "a,!,a,!,a,!,a,!.");
        due.same("all eight are there", x.goals(), 8);
    }

    private void mostArguments() {
        due.sentence("or a name with more than 4 arguments");
        String[] before = {"", "q(", "q(a,", "q(X,f(", "q([", "q([a|", "q(f(a,b),"};
        String[] behind = {"", ")", ")", "))", "])", "])", ")"};
        for (int k = 0; k < before.length; k++) {
            for (int count = 3; count <= 6; count++) {
                String term = before[k] + "p(a" + ",a".repeat(count - 1) + ")" + behind[k];
                fits(term + ".", count <= 4);
                fitsAsBody(term + ".", count <= 4);
                fitsAsBody("!," + term + ",r.", count <= 4);
            }
        }
        fits("p([a,b,c,d,e]).", true);
        fits("p([a,b,c,d,e|f]).", true);
    }

    /** One that is too much makes the whole text so, whatever stands before it and behind it. */
    private void anyOfThem() {
        due.sentence("TOO MUCH is a clause or question with more than 40 symbols, more than 8 variables .. more than 8 goals, or a name with more than 4 arguments");
        String[] much = {"p(" + list(19) + ",a)", "p([" + variables(9) + "])", "p([_,_,_,_,_,_,_,_,_])", "p:-!,!,!,!,!,!,!,!,!", "p(a,b,c,d,e)"};
        String[] rights = {"q", "q(X)", "q(_)", "q:-r(X,_),!", "q(a,b,c,d)", "q(" + list(19) + ")"};
        for (String one : much) {
            due.consults(one + ".", MUCH);
            for (String other : rights) {
                due.consults(other + ".", 1);
                due.consults(one + "." + other + ".", MUCH);
                due.consults(other + "." + one + ".", MUCH);
                due.consults(other + "." + one + "." + other + ".", MUCH);
            }
        }
        String[] behind = {"q", "!", "q(X)", "q(_)", "q(X,Y,_)", "q([a])"};
        for (String goal : behind) {
            fitsAsQuestion("p(a,b,c,d)," + goal + ".", true);
            fitsAsQuestion("p(a,b,c,d,e)," + goal + ".", false);
            fitsAsQuestion(goal + ",p(a,b,c,d,e)," + goal + ".", false);
            fitsAsQuestion("p([" + variables(9) + "])," + goal + ".", false);
            fitsAsQuestion("!,!,!,!,!,!,!,!," + goal + ".", false);
        }
    }

    private void mostClauses() {
        due.sentence("a text that would bring the number of clauses beyond 24");
        for (int there = 0; there <= 24; there++) {
            for (int more = Math.max(23 - there, 0); there + more <= 26; more++) {
                PrunedSearch x = Due.with("a.".repeat(there));
                int got = Due.consulted(x, "b.".repeat(more));
                boolean fits = there + more <= 24;
                due.same(more + " clauses behind " + there, got, fits ? more : MUCH);
                due.same(more + " clauses behind " + there + ": clauses()", x.clauses(), fits ? there + more : there);
            }
        }
        PrunedSearch full = Due.with("a.".repeat(24));
        due.same("none behind 24", Due.consulted(full, " "), 0);
        due.same("wrong behind 24", Due.consulted(full, "a.a"), -4);
        due.same("a question is no clause", Due.asked(full, "a,a."), 0);
        due.same("120 at once", Due.consulted(new PrunedSearch(), "a.".repeat(120)), MUCH);
    }

    /** A new object whose clause has so many names: n0, n1 and so on. */
    private static PrunedSearch named(int names) {
        return Due.with(NewObjectTest.names(names));
    }

    private void mostNames() {
        due.sentence("and one that would bring the number of different NAMES");
        for (int count = 31; count <= 34; count++) {
            due.consults(NewObjectTest.names(count), count <= 32 ? 1 : MUCH);
        }
        String[] more = {"m1.", "m1(m2).", "m1(m2,m3)."};
        for (int there = 29; there <= 32; there++) {
            for (int k = 0; k < 3; k++) {
                boolean fits = there + k + 1 <= 32;
                due.same(more[k] + " behind " + there, Due.consulted(named(there), more[k]), fits ? 1 : MUCH);
                due.same("ask " + more[k] + " behind " + there, Due.asked(named(there), more[k]), fits ? 0 : MUCH);
            }
        }
        PrunedSearch x = named(32);
        due.same("no new one", Due.consulted(x, "n31:-n0(n1,n2)."), 1);
        due.same("no new one asked", Due.asked(x, "n31(n0)."), 0);
        due.same("true is one", Due.asked(x, "true."), MUCH);
        due.same("fail is one", Due.consulted(x, "n0:-fail."), MUCH);
        due.same("a digit is one", Due.consulted(x, "n0(7)."), MUCH);
        due.same("wrong before it is much", Due.consulted(x, "m1(m2,m3)"), -10);
    }

    private void whateverTheirArguments() {
        due.sentence("(whatever their arguments;");
        PrunedSearch x = named(31);
        due.same("one name five times", Due.consulted(x, "m:-m(X),m(X,X),m(X,X,X),m(X,X,X,X)."), 1);
        due.same("then there are 32", Due.consulted(x, "m(n0):-n0(m)."), 1);
        due.same("and no room for more", Due.consulted(x, "k."), MUCH);
        due.same("as a question", Due.asked(named(31), "m,m(X),m(m)."), 1);
        due.same("two of them", Due.asked(named(31), "m,m(X),k(m)."), MUCH);
    }

    private void listsAreNoNames() {
        due.sentence("[] and . are none)");
        PrunedSearch x = named(32);
        due.same("[]", Due.consulted(x, "n0([])."), 1);
        due.same(".", Due.consulted(x, "n0([n1,n2|n3])."), 1);
        due.same("cuts and VARIABLES", Due.consulted(x, "n0(X,Y_1,_):-!."), 1);
        due.same("all in a question", Due.asked(x, "n0([X,[]|Y]),!."), 2);
        due.same("a name in a list is one", Due.asked(x, "n0([m])."), MUCH);
    }

    private void textsReadWithoutFault() {
        due.sentence("in texts that were read without fault and not too much beyond 32");
        String[] refused = {"m1:-m2", "m1(m2", "m1. m2. :", "m1(m2,m2,m2,m2,m2).", "m1(" + list(19) + ").m2:-m2(m1).m2(" + list(19) + ").", "m1.m2.".repeat(13)};
        for (String text : refused) {
            PrunedSearch x = named(30);
            due.holds("refused: " + text, Due.consulted(x, text) < 0);
            due.same("two others after " + text, Due.consulted(x, "k1:-k2."), 1);
            due.same("and no third", Due.asked(x, "m1."), MUCH);
            PrunedSearch y = named(30);
            due.holds("asked and refused: " + text, Due.asked(y, text) < 0);
            due.same("two others after " + text, Due.asked(y, "k1(k2)."), 0);
            due.same("and no third", Due.consulted(y, "m1."), MUCH);
        }
        PrunedSearch z = named(30);
        due.same("a question's names count", Due.asked(z, "m1(m2)."), 0);
        due.same("so there are 32", Due.consulted(z, "m3."), MUCH);
        due.same("which stay known", Due.consulted(z, "m1:-m2."), 1);
        String[] questions = {"m1(m2).", "m1(m2,X)."};
        for (String question : questions) {
            PrunedSearch y = named(30);
            due.same("names of " + question, Due.asked(y, question) >= 0 ? 1 : 0, 1);
            due.same("a refused text", Due.consulted(y, "k1(k2"), -6);
            due.same("takes none of them away", Due.consulted(y, "k1:-k2."), MUCH);
        }
        PrunedSearch w = named(32);
        due.same("33", Due.consulted(w, "m1."), MUCH);
        due.same("33 again", Due.consulted(w, "m1."), MUCH);
        due.same("the same as a question", Due.asked(w, "m1."), MUCH);
    }
}
