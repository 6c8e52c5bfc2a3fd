/** Promises 5 and 8 to 11: run, and what tries, choices, length and goals say on the way. */
final class RunTest {
    public static void main(String[] args) {
        Due due = new Due();
        refused(due);
        steps(due);
        failing(due);
        candidates(due);
        backtracking(due);
        cuts(due);
        trueAndFail(due);
        equality(due);
        deep(due);
        large(due);
        manyFold(due);
        due.finish();
    }

    private static void refused(Due due) {
        PrunedSearch x = Due.with("p(a).");
        due.same("no search", x.run(1), PrunedSearch.NONE);
        Due.asked(x, "p(X).");
        int[] wrong = {0, -1, 101, Integer.MIN_VALUE, Integer.MAX_VALUE};
        for (int n : wrong) {
            due.same("run(" + n + ")", x.run(n), PrunedSearch.NONE);
            due.counts("after run(" + n + ")", x, 0, 0, 0, 1);
        }
        due.same("run(100)", x.run(100), 1);
        for (int n : wrong) {
            due.same("run(" + n + ") at an answer", x.run(n), PrunedSearch.NONE);
            due.same("still at the answer", Due.text(x, 0), "a");
        }
        due.same("run(1) goes on", x.run(1), 0);
        due.same("run(101) at the end", x.run(101), PrunedSearch.NONE);
    }

    private static void steps(Due due) {
        PrunedSearch x = Due.search("a:-b,c. b. c:-d,!. d.", "a,b.");
        due.counts("asked", x, 0, 0, 0, 2);
        int[] goals = {3, 2, 3, 2, 1};
        for (int k = 0; k < goals.length; k++) {
            due.same("step " + k, x.run(1), 2);
            due.same("goals " + k, x.goals(), goals[k]);
            due.same("length " + k, x.length(), Math.min(k + 1, 4));
            due.same("tries " + k, x.tries(), Math.min(k + 1, 4));
        }
        due.same("an answer at the last of n steps", x.run(1), 1);
        due.counts("at the answer", x, 5, 0, 5, 0);
        due.same("no choice: the end without a step", x.run(1), 0);
        due.counts("at the end", x, 5, 0, 5, 0);
        due.same("the end again", x.run(100), 0);

        PrunedSearch y = Due.search("l:-l.", "l.");
        due.same("n steps and no more", y.run(7), 2);
        due.same("length", y.length(), 7);
        due.same("n more", y.run(5), 2);
        due.same("length", y.length(), 12);
    }

    private static void failing(Due due) {
        PrunedSearch x = Due.search("p(a). p(b). q(b).", "p(X),q(X).");
        due.same("p(a)", x.run(1), 2);
        due.counts("p(a)", x, 1, 1, 1, 1);
        due.same("q(a) has no candidate", x.run(1), 2);
        due.counts("q(a)", x, 1, 1, 1, 0);
        due.same("no answer", x.answer(0, 0), 0);
        due.same("p(b)", x.run(1), 2);
        due.counts("p(b)", x, 2, 0, 1, 1);
        due.same("q(b)", x.run(1), 1);
        due.counts("q(b)", x, 3, 0, 2, 0);

        PrunedSearch y = Due.search("r(X,a). r(X,b).", "r(1,c),r(1,a).");
        due.same("fails in the try", y.run(1), 2);
        due.counts("first try", y, 1, 1, 1, 0);
        due.same("fails in the last try", y.run(1), 0);
        due.counts("second try", y, 2, 0, 1, 0);
        due.same("no clause at all", Due.search("", "p,p.").run(1), 0);
        due.same("other number of arguments", Due.search("p(a). p(a,b).", "p.").run(1), 0);
    }

    private static void candidates(Due due) {
        String clauses = "p(a). p(X):-q(X). p([]). p([_|_]). p(f(_)). p(f(_,_)). p(b).";
        String[] questions = {"p(a).", "p(b).", "p(c).", "p([]).", "p([a]).", "p(f(a)).", "p(f(a,b)).", "p(f(a,b,c)).", "p(X)."};
        int[] choices = {1, 1, 0, 1, 1, 1, 1, 0, 6};
        for (int k = 0; k < questions.length; k++) {
            PrunedSearch x = Due.search(clauses, questions[k]);
            x.run(1);
            due.same("choices after " + questions[k], x.choices(), choices[k] > 0 ? 1 : 0);
            int end = x.run(100);
            for (int j = 0; j < 20 && end != 0; j++) {
                end = x.run(100);
            }
            due.same("tries of all of " + questions[k], x.tries(), choices[k] + 1);
        }
        PrunedSearch y = Due.search("s(X):-t(X,Y),u(Y). t(1,2). t(1,3). u(3). u(2). u(3).", "s(1).");
        y.run(3);
        due.counts("what stands for Y counts", y, 3, 1, 3, 0);
        due.same("one candidate of u(2)", y.run(1), 2);
        y.run(1);
        due.same("two of u(3)", y.choices(), 1);
        PrunedSearch z = Due.search("q(X,a). q(X,b).", "q(1,b).");
        z.run(1);
        due.counts("only first arguments count", z, 1, 1, 1, 0);
    }

    private static void backtracking(Due due) {
        String digits = "p(1). p(2). p(3).";
        PrunedSearch x = Due.search(digits, "p(X),p(Y).");
        due.same("all pairs", Due.answers(x, 2), "1 1 ; 1 2 ; 1 3 ; 2 1 ; 2 2 ; 2 3 ; 3 1 ; 3 2 ; 3 3 ; 0");
        due.same("tries", x.tries(), 12);
        String path = "e(a,b). e(b,c). e(c,d). t(X,Y):-e(X,Y). t(X,Y):-e(X,Z),t(Z,Y).";
        due.same("clauses in their order", Due.answers(Due.search(path, "t(a,X)."), 1), "b ; c ; d ; 0");
        String app = "app([],X,X). app([A|X],Y,[A|Z]):-app(X,Y,Z).";
        due.same("append", Due.answers(Due.search(app, "app(X,Y,[1,2])."), 2), "[] [1,2] ; [1] [2] ; [1,2] [] ; 0");
        String reverse = app + " rev([],[]). rev([H|T],R):-rev(T,S),app(S,[H],R).";
        due.same("reverse", Due.answers(Due.search(reverse, "rev([a,b,c,d],X)."), 1), "[d,c,b,a] ; 0");
        PrunedSearch y = Due.search(digits, "p(X),p(Y),p(Z).");
        due.same("to the answer", y.run(3), 1);
        due.counts("three choices", y, 3, 3, 3, 0);
        y.run(1);
        y.run(1);
        due.counts("the last one used up", y, 5, 2, 3, 0);
        due.same("on", y.run(1), 2);
        due.counts("the second one", y, 6, 2, 2, 1);
    }

    private static void cuts(Due due) {
        String digits = "p(1). p(2). p(3). ";
        due.same("cut in a question", Due.answers(Due.search(digits, "p(X),!,p(Y)."), 2), "1 1 ; 1 2 ; 1 3 ; 0");
        due.same("cut at the end", Due.answers(Due.search(digits, "p(X),p(Y),!."), 2), "1 1 ; 0");
        due.same("cut in a body", Due.answers(Due.search(digits + "q(X):-p(X),!. q(9).", "p(X),q(Y)."), 2), "1 1 ; 2 1 ; 3 1 ; 0");
        due.same("cut in a later clause", Due.answers(Due.search(digits + "q(8). q(X):-p(X),!. q(9).", "q(Y)."), 1), "8 ; 1 ; 0");
        due.same("cut in the last clause", Due.answers(Due.search(digits + "q(8). q(X):-p(X),!.", "p(X),q(Y)."), 2), "1 8 ; 1 1 ; 2 8 ; 2 1 ; 3 8 ; 3 1 ; 0");
        due.same("cut of the only clause", Due.answers(Due.search(digits + "q(X):-p(X),!.", "p(X),q(Y)."), 2), "1 1 ; 2 1 ; 3 1 ; 0");
        due.same("cut first", Due.answers(Due.search(digits + "q(X):-!,p(X). q(9).", "q(Y)."), 1), "1 ; 2 ; 3 ; 0");
        due.same("cut and fail", Due.answers(Due.search("n(a):-!,fail. n(_).", "n(b),n(a)."), 0), "0");
        due.same("cut and fail, the other", Due.answers(Due.search("n(a):-!,fail. n(_).", "n(b)."), 0), "; 0");
        due.same("cuts in one another", Due.answers(Due.search(digits + "q(X):-r(X),!. q(7). r(X):-p(X),s(X),!. r(8). s(2). s(3).", "p(A),q(X)."), 2), "1 2 ; 2 2 ; 3 2 ; 0");

        PrunedSearch x = Due.search(digits + "q(X):-p(X),p(Y),!,p(Z). q(9). q(10).", "p(A),q(X),p(B).");
        x.run(4);
        due.counts("before the cut", x, 4, 4, 4, 3);
        x.run(1);
        due.counts("a cut is a step, no try, and drops three choices", x, 4, 1, 4, 2);
        x.run(1);
        due.counts("behind the cut", x, 5, 2, 5, 1);

        PrunedSearch y = Due.search(digits + "q(X):-p(X). q(X):-p(X),!. q(9).", "p(A),q(X).");
        due.same("the first clause of q", y.run(9), 1);
        due.counts("two candidates left of q", y, 3, 3, 3, 0);
        y.run(1);
        due.same("the last one of p", y.run(1), 1);
        due.counts("the last one of p", y, 5, 2, 3, 0);
        due.same("the second clause of q", y.run(1), 2);
        due.counts("the second clause of q", y, 6, 2, 2, 2);
        y.run(1);
        due.same("its p", y.choices(), 3);
        due.same("its cut", y.run(1), 1);
        due.counts("its cut", y, 7, 1, 3, 0);

        PrunedSearch z = Due.search("p(1). p(2).", "!,p(X).");
        due.same("nothing to drop", z.run(2), 1);
        due.counts("nothing to drop", z, 1, 1, 1, 0);
    }

    private static void trueAndFail(Due due) {
        PrunedSearch x = Due.search("true:-fail. fail. true(x). fail(y).", "true,true(X),fail(Y),true.");
        due.same("true is a step", x.run(1), 2);
        due.counts("true", x, 0, 0, 0, 3);
        due.same("with arguments they are like others", x.run(100), 1);
        due.counts("true", x, 2, 0, 2, 0);
        due.same("X and Y", Due.text(x, 0) + Due.text(x, 1), "xy");
        PrunedSearch y = Due.search("fail. p. p.", "p,fail,p.");
        y.run(1);
        due.same("fail fails", y.run(1), 2);
        due.counts("fail", y, 1, 1, 1, 0);
        y.run(1);
        due.same("fail fails again", y.run(1), 0);
        due.counts("fail", y, 2, 0, 1, 0);
        due.same("true alone", Due.answers(Due.search("", "true."), 0), "; 0");
        due.same("true(a) has no clause", Due.answers(Due.search("true.", "true(a)."), 0), "0");
    }

    private static void equality(Due due) {
        String eq = "eq(X,X). o(X,f(X)). c(X,Y,Y,X). ";
        String[][] rows = {
            {"eq(f(X,b),f(a,Y)).", "a b ; 0"}, {"eq(X,f(X)).", "0"}, {"eq(X,X).", "_0 _1 ; 0"}, {"eq(f(X),f(X)).", "_0 _1 ; 0"}, {"eq(f(X,Y),f(Y,X)).", "_0 _0 ; 0"},
            {"eq(f(X,Y),f(Y,g(X))).", "0"}, {"eq(f(X,Y),f(g(Y),g(X))).", "0"}, {"eq(X,Y),eq(Y,f(X)).", "0"}, {"eq(X,Y),eq(f(X),f(Y)).", "_0 _0 ; 0"},
            {"eq([X|Y],[a,b,c]).", "a [b,c] ; 0"}, {"eq([X,Y],[a|Y]).", "0"}, {"eq([X|Y],[]).", "0"}, {"eq(a,b).", "0"}, {"eq(f(a),f(a,b)).", "0"}, {"eq(f,f(a)).", "0"},
            {"o(X,X).", "0"}, {"o(X,Y),o(Y,Z),eq(X,Z).", "0"}, {"c(X,f(X),Y,X).", "_0 f(_0) ; 0"}, {"c(X,f(X),X,Y).", "0"}, {"c(f(Y),X,g(Y),X).", "0"}, {"c(Y,X,f(Z),g(Z)).", "g(_0) f(_0) ; 0"},
            {"eq(f(f(X)),f(X)).", "0"}, {"eq(f(X,f(X)),f(Y,Y)).", "0"}, {"eq(X,a),eq(X,b).", "0"}, {"eq(f(X,X),f(a,Y)).", "a a ; 0"}, {"eq(f(X,X),f(a,b)).", "0"}, {"eq(01,1).", "0"},
        };
        for (String[] row : rows) {
            PrunedSearch x = Due.with(eq);
            int variables = Due.asked(x, row[0]);
            String answers = Due.answers(x, 2);
            String want = row[1].equals("_0 _1 ; 0") && variables == 1 ? "_0  ; 0" : row[1];
            due.same(row[0], answers, want);
        }
        PrunedSearch y = Due.search("q(f(X),X). q(Y,Y).", "q(Z,Z).");
        due.same("a circle fails, the next clause does not", Due.answers(y, 1), "_0 ; 0");
        due.same("tries", y.tries(), 2);
    }

    private static void deep(Due due) {
        String count = "n(z). n(s(X)):-n(X). l(X):-l(X). d(X):-d(X). d(a). e:-e,f. k(z,_). k(s(N),X):-k(N,X).";
        PrunedSearch x = Due.search(count, "l(a),n(z).");
        due.same("60 tries", x.run(60), 2);
        due.counts("60 tries", x, 60, 0, 60, 2);
        due.same("the next one is deep", x.run(1), 3);
        due.counts("deep", x, 60, 0, 60, 1);
        due.same("deep again", x.run(1), 3);
        due.same("deep and refused", x.run(0), PrunedSearch.NONE);
        due.same("no answer", x.answer(0, 0), 0);

        PrunedSearch y = Due.search(count, "d(X).");
        due.same("choices on the way", y.run(60), 2);
        due.counts("choices on the way", y, 60, 60, 60, 1);
        due.same("deep, and no choice more", y.run(5), 3);
        due.counts("deep", y, 60, 60, 60, 0);
        due.same("no answer when it is deep", y.answer(0, 0), 0);

        due.same("an answer at length 60", steps("t.", 60), "1 60");
        due.same("none at length 61", steps("t,t.", 60), "3 60");
        due.same("true and cuts do not count", steps("t,true,!,true.", 60), "1 60");
        due.same("fail comes before deep", steps("t,fail.", 60), "0 60");
        due.same("no candidate comes before deep", steps("t,none.", 60), "0 60");
    }

    /** Runs the question, whose t takes so many tries: the end and the length there. */
    private static String steps(String question, int tries) {
        // t5 is 1 try, t4 3, t3 7, t2 15, t1 31: 60 are 31, 15, 7, 3, 1, 1, 1 and t itself.
        String text = "t:-t1,t2,t3,t4,t5,t5,t5. t1:-t2,t2. t2:-t3,t3. t3:-t4,t4. t4:-t5,t5. t5.";
        PrunedSearch x = Due.search(text, question);
        int end = x.run(100);
        if (x.tries() != tries) {
            return "not " + tries + " tries but " + x.tries();
        }
        return end + " " + x.length();
    }

    private static void large(Due due) {
        String list = ReadingTest.list(19);
        String clauses = "w(" + list + "). v(_,_,_). v(_,_,_,_). u(_).";
        PrunedSearch x = Due.search(clauses, "w(A),w(B),w(C),u(D).");
        due.same("120 symbols", x.run(3), 2);
        due.same("120 symbols with a goal", x.run(1), 1);
        due.same("the text of C", Due.text(x, 2), list);
        PrunedSearch y = Due.search(clauses, "w(A),w(B),w(C),u(f(D)).");
        due.same("121 symbols", y.run(3), 4);
        due.counts("121 symbols", y, 3, 0, 3, 1);
        due.same("again", y.run(1), 4);
        due.same("refused all the same", y.run(101), PrunedSearch.NONE);
        due.same("no answer", y.answer(0, 0), 0);
        due.same("_ alone does not count", Due.search(clauses, "w(_),w(_),w(_),w(A),w(B),w(C).").run(100), 1);
        due.same("120 symbols and no goal", Due.search(clauses, "v(D,E,F),w(A),w(B),w(C).").run(100), 1);
        PrunedSearch z = Due.search(clauses, "v(D,E,F,G),w(A),w(B),w(C).");
        due.same("121 symbols and no goal", z.run(3), 2);
        due.same("121 symbols and no goal", z.run(1), 4);
        due.counts("121 symbols and no goal", z, 4, 0, 4, 0);
        due.same("cuts and true count", Due.search(clauses, "w(A),w(B),w(C),!,true,true.").run(3), 2);
        due.same("cuts and true count", Due.search(clauses, "w(A),w(B),w(C),!,true,true,!.").run(3), 4);
        String equal = "w(" + list + "). e(X,X). y(X):-z(X),z(X),!. z(X):-y(X),!.";
        due.same("one term for three VARIABLES, 120", Due.search(equal, "e(A,B),e(B,C),w(A),u(D).").run(3), 2);
        due.same("one term for three VARIABLES, 121", Due.search(equal, "e(A,B),e(B,C),w(A),u(f(D)).").run(3), 4);
        due.same("the body counts, 120", Due.search(equal, "w(A),y(A).").run(2), 2);
        due.same("the body counts, 121", Due.search(equal, "w(A),y(A),true.").run(2), 4);

        PrunedSearch back = Due.search("p(a). p(b). g(X):-g(f(X,X)).", "p(X),g(X).");
        due.same("large with a choice", back.run(100), 4);
        due.counts("large with a choice", back, 7, 1, 7, 1);
    }

    /** Terms that one try makes many times larger: it must still end soon. */
    private static void manyFold(Due due) {
        String chain = "c(_,L,L). c(A,L,M):-c(B,[A|L],[f(B,B,B,B)|M]).";
        PrunedSearch x = Due.search(chain, "c(_,[],[]).");
        due.same("15 answers, then large", Due.answers(x, 0), "; ".repeat(15) + "4");
        String chains = "c(_,_,L,L). c(A,D,L,M):-c(B,E,[A,D|L],[f(B,B,B),f(E,E,E)|M]). s:-c(A,B,[A,B],[Z,Z]). r:-c(A,B,[A,B,A],[Z,Z,f(B)]).";
        due.same("equal terms, then large", Due.answers(Due.search(chains, "s."), 0), "; ".repeat(8) + "4");
        due.same("circles, then large", Due.answers(Due.search(chains, "r."), 0), "4");
        PrunedSearch z = Due.search("e(X,X).", "e([A,B,C,D],[f(B,B,B,B),f(C,C,C,C),f(D,D,D,D),a]).");
        due.same("112 symbols", z.run(1), 1);
        due.same("C", Due.text(z, 2), "f(a,a,a,a)");
        due.same("B", Due.text(z, 1), "f(f(a,a,a,a),f(a,a,a,a),f(a,a,a,a),f(a,a,a,a))");
        due.same("no place 230 in A", z.answer(0, 230), 0);
    }
}
