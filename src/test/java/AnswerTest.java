/** Promise 6: answer. */
final class AnswerTest {
    public static void main(String[] args) {
        Due due = new Due();
        texts(due);
        places(due);
        onlyAtAnswers(due);
        longest(due);
        due.finish();
    }

    /** What X, Y and Z are told as, with = between the VARIABLES. */
    private static void texts(Due due) {
        String[][] rows = {
            {"e(X,a).", "a"}, {"e(X,abcdefgh).", "abcdefgh"}, {"e(X,0).", "0"}, {"e(X,007).", "007"}, {"e(X,aB_9).", "aB_9"}, {"e(X,true).", "true"},
            {"e(X,f(a)).", "f(a)"}, {"e(X,f(a,b,c,d)).", "f(a,b,c,d)"}, {"e(X, f( g(a) , h ) ).", "f(g(a),h)"}, {"e(X,f(g(h(a,b),c),d)).", "f(g(h(a,b),c),d)"},
            {"e(X,[]).", "[]"}, {"e(X,[ ]).", "[]"}, {"e(X,[a]).", "[a]"}, {"e(X,[a,b,c]).", "[a,b,c]"}, {"e(X,[a|b]).", "[a|b]"}, {"e(X,[a,b|c]).", "[a,b|c]"}, {"e(X,[a|[]]).", "[a]"},
            {"e(X,[a|[b]]).", "[a,b]"}, {"e(X,[a|[b|c]]).", "[a,b|c]"}, {"e(X,[[]]).", "[[]]"}, {"e(X,[[],[]|[]]).", "[[],[]]"}, {"e(X,[[a],[b|c]|d]).", "[[a],[b|c]|d]"},
            {"e(X,[a|f(b)]).", "[a|f(b)]"}, {"e(X,f([a],[])).", "f([a],[])"}, {"e(X,[f(a,[b])|f([c])]).", "[f(a,[b])|f([c])]"},
            {"e(X,_).", "_0"}, {"e(X,f(_,_)).", "f(_0,_1)"}, {"e(X,[_|_]).", "[_0|_1]"}, {"e(X,Y).", "_0=_0"}, {"e(a,a),e(X,f(Y)).", "f(_0)=_0"}, {"e(f(X),f(Y)),e(Z,X).", "_0=_0=_0"},
            {"e(f(X,Y),f(Z,a)).", "_0=a=_0"}, {"e(a,a),e(Z,f(X,Y)),e(X,b).", "f(b,_0)=b=_0"}, {"e(Z,[B,A,B,_|A]).", "[_0,_1,_0,_2|_1]=_0=_1"}, {"g(X,Y),e(Z,_).", "_0=_1=_2"},
            {"g(Y,X),e(X,f(Z)),e(Y,g(Z)).", "g(_0)=f(_0)=_0"}, {"e(a,a),g(_,X),g(_,_).", "_0"}, {"e(X,[a|T]),e(T,[b|U]),e(U,[]).", "[a,b]=[b]=[]"}, {"e(X,[a|T]),e(T,[b|U]).", "[a,b|_0]=[b|_0]=_0"},
            {"e(_1,a),e(__,_1).", "a=a"}, {"h(X).", "[f(_0,_1)|_1]"}, {"h([X|Y]).", "f(_0,_1)=_1"}, {"i(X,Y).", "_0=[_0,_1]"},
        };
        for (String[] row : rows) {
            PrunedSearch x = Due.with("e(X,X). g(_,_). h([f(_,A)|A]). i(X,[X,Y]).");
            int variables = Due.asked(x, row[0]);
            due.same("run of " + row[0], x.run(100), 1);
            StringBuilder texts = new StringBuilder(Due.text(x, 0));
            for (int v = 1; v < variables; v++) {
                texts.append("=").append(Due.text(x, v));
            }
            due.same(row[0], texts.toString(), row[1]);
        }
    }

    private static void places(Due due) {
        PrunedSearch x = Due.search("e(X,X).", "e(X,f(a,Y)),e(_,b).");
        due.same("run", x.run(9), 1);
        due.same("answer(0, 0)", x.answer(0, 0), 'f');
        due.same("answer(0, 6)", x.answer(0, 6), ')');
        due.same("answer(0, 7)", x.answer(0, 7), 0);
        due.same("answer(1, 1)", x.answer(1, 1), '0');
        due.same("answer(1, 2)", x.answer(1, 2), 0);
        int[] none = {-1, Integer.MIN_VALUE, Integer.MAX_VALUE, 8, 1000, 2000000000};
        for (int k : none) {
            due.same("answer(0, " + k + ")", x.answer(0, k), 0);
            due.same("answer(1, " + k + ")", x.answer(1, k), 0);
            due.same("answer(" + k + ", 0)", x.answer(k, 0), 0);
        }
        for (int v = 2; v < 9; v++) {
            due.same("_ alone is none: answer(" + v + ", 0)", x.answer(v, 0), 0);
        }
        due.same("VARIABLE 1 asked first", Due.text(order(), 1), "_1");
        PrunedSearch eight = Due.search("e(_,_,_,_).", "e(A,B,C,D),e(E,F,G,H).");
        eight.run(9);
        due.same("the eighth", Due.text(eight, 7), "_7");
        due.same("no ninth", eight.answer(8, 0), 0);
    }

    private static PrunedSearch order() {
        PrunedSearch x = Due.search("e(_,_).", "e(A,B).");
        x.run(1);
        return x;
    }

    private static void onlyAtAnswers(Due due) {
        PrunedSearch x = Due.search("p(a). p(b). q(b). q(c).", "p(X),q(X).");
        due.same("before the first step", x.answer(0, 0), 0);
        x.run(1);
        due.same("on the way", x.answer(0, 0), 0);
        due.same("failed", x.run(1) == 2 ? x.answer(0, 0) : -1, 0);
        x.run(2);
        due.same("at the answer", Due.text(x, 0), "b");
        due.same("and again", Due.text(x, 0), "b");
        x.tries();
        x.goals();
        due.same("and still", Due.text(x, 0), "b");
        due.same("the end", x.run(1), 0);
        due.same("at the end", x.answer(0, 0), 0);

        PrunedSearch y = Due.search("p(a). p(f(b)). p(c).", "p(X).");
        y.run(1);
        due.same("first", Due.text(y, 0), "a");
        y.run(1);
        due.same("second", Due.text(y, 0), "f(b)");
        y.run(1);
        due.same("third, shorter", Due.text(y, 0), "c");
        Due.asked(y, "p(Y).");
        due.same("a new question", y.answer(0, 0), 0);
        y.run(1);
        due.same("its answer", Due.text(y, 0), "a");
        Due.asked(y, "p(c).");
        y.run(1);
        due.same("no VARIABLE", y.answer(0, 0), 0);
        y.forget();
        due.same("forgotten", y.answer(0, 0), 0);
    }

    private static void longest(Due due) {
        PrunedSearch x = Due.search("e(X,X). v(A,[A,_,_,_,_,_|B],B).", "e(A,B),v(C,B,D),v(E,D,[]).");
        due.same("run", x.run(9), 1);
        due.same("variables past 9", Due.text(x, 0), "[_0,_1,_2,_3,_4,_5,_6,_7,_8,_9,_10,_11]");
        due.same("numbered by the first text", Due.text(x, 4), "_6");
        PrunedSearch most = Due.search("f(X):-t(X). t(g(_,_,_,_)).", "f(A),f(B),f(C),f(D),f(E),f(F),f(G),f(H).");
        due.same("run", most.run(100), 1);
        due.same("32 variables", Due.text(most, 7), "g(_28,_29,_30,_31)");
        String four = "g(A,B,C,D)";
        PrunedSearch full = Due.with("s(" + four + "):-t(A),t(B),t(C),t(D). t(" + four + "):-u(A),u(B),u(C),u(D). u(g(_,_,_,_)). u(_).");
        Due.asked(full, "s(X).");
        due.same("run", full.run(100), 1);
        StringBuilder want = new StringBuilder();
        for (int k = 0; k < 64; k++) {
            want.append(k == 0 ? "g(g(g(" : k % 16 == 0 ? ")),g(g(" : k % 4 == 0 ? "),g(" : ",").append("_").append(k);
        }
        due.same("85 symbols, 64 variables", Due.text(full, 0), want.append(")))").toString());
        PrunedSearch y = Due.search("n(N,s2345678(N)). e(X,X).", "n(z2345678,A),n(A,B),n(B,C),n(C,D),n(D,E),n(E,F),n(F,G).");
        due.same("run", y.run(9), 1);
        due.same("long words", Due.text(y, 6), "s2345678(".repeat(7) + "z2345678" + ")".repeat(7));

        // 118 names of 8 letters one in another: past forty levels, and the longest of texts.
        String deep = "s2345678(".repeat(11);
        String shut = ")".repeat(11);
        PrunedSearch z = Due.search("n(N," + deep + "N" + shut + ").", "n(_,X).");
        due.same("run", z.run(9), 1);
        due.same("one", Due.text(z, 0), deep + "_0" + shut);
        PrunedSearch w = Due.with("n(N," + deep + "N" + shut + ").");
        Due.consulted(w, "m(A,B):-n(C,B),n(D,C),n(E,D),n(F,E),n(A,F). k(A,B):-m(C,B),m(A,C).");
        Due.asked(w, "k(_,X).");
        due.same("a deep term", w.run(100), 1);
        due.same("its text", Due.text(w, 0, 800), (deep.repeat(10) + "_0" + shut.repeat(10)).substring(800));
    }
}
