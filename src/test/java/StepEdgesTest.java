/** SEARCH, STEP, CANDIDATES, RESOLVED, ANSWER and the ends: each sentence at its boundary. */
final class StepEdgesTest {
    /** t takes 55 tries, w one, x one or two. */
    private static final String TRIES = "t:-u,u,u,u,u,u. u:-w,w,w,w,w,w,w,w. w. x. x. y(a). y(b).";

    private static final String LIST = ReadingTest.list(19);

    private final Due due = new Due();

    public static void main(String[] args) {
        StepEdgesTest test = new StepEdgesTest();
        test.due.each(
            test::atFirst, test::firstGoalTaken, test::cut, test::isTrue, test::isFail,
            test::candidatesInOrder, test::sameNameAndNumber, test::firstArguments, test::whatStandsNow,
            test::noCandidate, test::deep, test::deepPutsNothing, test::several, test::resolvedWithTheFirst, test::branchOfTheChoice, test::resolvedWithThatClause,
            test::lastOfTheChoices, test::noneLeft, test::lengthAndTries, test::newVariables,
            test::mostGeneral, test::noCircles, test::cannotBeEqual, test::bodyFirst, test::cutOfTheBody,
            test::cutWithoutChoice, test::large, test::symbolsOfGoals, test::symbolsOfVariables,
            test::nothingStands, test::largeWithoutGoals, test::answer, test::empty, test::emptyWithoutStep);
    }

    /** Makes so many steps, all in calls that answer 2. */
    private static PrunedSearch after(int steps, String clauses, String question) {
        PrunedSearch x = Due.search(clauses, question);
        for (int k = 0; k < steps; k++) {
            if (x.run(1) != 2) {
                throw new IllegalStateException("step " + k + " of " + question);
            }
        }
        return x;
    }

    private void atFirst() {
        due.sentence("At first: the goals of the question, with the cut 0; nothing stands for a variable; length 0; no choices.");
        due.counts("one goal", Due.search("p(a).", "p(X)."), 0, 0, 0, 1);
        due.counts("eight goals", Due.search("p(a).", "p(X),!,p(X),!,p(X),!,p(X),!."), 0, 0, 0, 8);
        PrunedSearch x = Due.search("p(a). p(b). v(_).", "p(X),p(Y),!.");
        due.same("run", x.run(3), 1);
        due.counts("cut 0 drops all choices", x, 2, 0, 2, 0);
        Due.asked(x, "v(X),p(Y).");
        due.counts("asked again", x, 0, 0, 0, 2);
        due.same("run", x.run(2), 1);
        due.same("nothing stands for X", Due.text(x, 0), "_0");
        due.counts("counted anew", x, 2, 1, 2, 0);
    }

    private void firstGoalTaken() {
        due.sentence("A STEP, when the branch did not fail: its first goal is taken away.");
        due.counts("true", after(1, "p.", "true,true,p."), 0, 0, 0, 2);
        due.counts("cut", after(1, "p.", "!,true,p."), 0, 0, 0, 2);
        due.counts("a fact", after(1, "p.", "p,true,p."), 1, 0, 1, 2);
        due.counts("a clause of one goal", after(1, "p:-q. q.", "p,true,p."), 1, 0, 1, 3);
        due.counts("a clause of eight goals", after(1, "p:-!,!,!,!,!,!,!,!.", "p,p,p,p,p,p,p,p."), 1, 0, 1, 15);
    }

    private void cut() {
        due.sentence("It is !: the choices behind the first CUT ones are dropped.");
        String clauses = "p(a). p(b). c0:-!. c1(X):-p(X),!. c2(X,Y):-p(X),p(Y),!,p(_). c2(z,z).";
        due.counts("none there", after(1, clauses, "!,p(X)."), 0, 0, 0, 1);
        due.counts("one there", after(2, clauses, "p(X),!,p(Y)."), 1, 0, 1, 1);
        due.counts("two there", after(3, clauses, "p(X),p(Y),!,p(Z)."), 2, 0, 2, 1);
        due.counts("none behind the first one", after(3, clauses, "p(X),c0,p(Z)."), 2, 1, 2, 1);
        due.counts("none behind the first two", after(4, clauses, "p(X),p(Y),c0,p(Z)."), 3, 2, 3, 1);
        due.counts("one behind the first one", after(4, clauses, "p(X),c1(Y),p(Z)."), 3, 1, 3, 1);
        due.counts("three behind the first one, before", after(4, clauses, "p(X),c2(Y,Z),p(U)."), 4, 4, 4, 3);
        due.counts("three behind the first one", after(5, clauses, "p(X),c2(Y,Z),p(U)."), 4, 1, 4, 2);
        due.counts("a second cut", after(3, clauses, "p(X),!,!,p(Y)."), 1, 0, 1, 1);
    }

    private void isTrue() {
        due.sentence("It is the name true without arguments: nothing more.");
        String clauses = "true:-fail. true. true(a). true(b). p(a). p(b).";
        due.counts("no try and no choice", after(1, clauses, "true,p(X)."), 0, 0, 0, 1);
        due.counts("choices stay", after(2, clauses, "p(X),true,p(Y)."), 1, 1, 1, 1);
        due.same("alone", Due.answers(Due.search(clauses, "true."), 0), "; 0");
        due.same("without clauses", Due.answers(Due.search("", "true,true."), 0), "; 0");
        due.same("with an argument it is like others", Due.answers(Due.search(clauses, "true(X)."), 1), "a ; b ; 0");
        due.same("with an argument and no clause", Due.answers(Due.search("true.", "true(a)."), 0), "0");
    }

    private void isFail() {
        due.sentence("It is the name fail without arguments: the branch FAILS.");
        String clauses = "fail. fail(a). fail(b). p(a). p(b).";
        PrunedSearch x = after(2, clauses, "p(X),fail,p(Y).");
        due.counts("no try", x, 1, 1, 1, 0);
        due.same("on with the choice", x.run(1), 2);
        due.counts("on with the choice", x, 2, 0, 1, 2);
        due.same("fails again", x.run(1), 0);
        due.same("alone", Due.answers(Due.search(clauses, "fail."), 0), "0");
        due.same("with an argument it is like others", Due.answers(Due.search(clauses, "fail(X)."), 1), "a ; b ; 0");
        due.same("with an argument and no clause", Due.answers(Due.search("fail.", "fail(a)."), 0), "0");
    }

    private void candidatesInOrder() {
        due.sentence("Otherwise the CANDIDATES are the clauses, in their order");
        due.same("in their order", Due.answers(Due.search("p(c). q(x). p(a). q(y). p(b).", "p(X)."), 1), "c ; a ; b ; 0");
        StringBuilder clauses = new StringBuilder();
        StringBuilder answers = new StringBuilder();
        for (char c = 'a'; c < 'a' + 24; c++) {
            clauses.append("p(").append(c).append(").");
            answers.append(c).append(" ; ");
        }
        due.same("24 of them", Due.answers(Due.search(clauses.toString(), "p(X)."), 1), answers.append("0").toString());
        PrunedSearch last = Due.search(clauses.toString(), "p(x).");
        due.same("the last one alone", last.run(1), 1);
        due.counts("the last one alone", last, 1, 0, 1, 0);
    }

    /** How many candidates the goal has in these clauses, which are facts. */
    private void candidates(String clauses, String goal, int count) {
        PrunedSearch x = Due.search(clauses, goal + ".");
        x.run(1);
        due.same("choices for " + goal + " in " + clauses, x.choices(), count > 1 ? 1 : 0);
        for (int k = 0; k < 30 && x.run(100) != 0; k++) {
            continue;
        }
        due.same("candidates of " + goal + " in " + clauses, x.tries(), count);
    }

    private void sameNameAndNumber() {
        due.sentence("whose heads have the same name and number of arguments");
        String clauses = "p. p. p(a). p(a,b). p(a,b,c). p(a,b,c,d). q. q(a,b). q(a,b).";
        candidates(clauses, "p", 2);
        candidates(clauses, "p(X)", 1);
        candidates(clauses, "p(X,Y)", 1);
        candidates(clauses, "p(X,Y,Z)", 1);
        candidates(clauses, "p(X,Y,Z,U)", 1);
        candidates(clauses, "q", 1);
        candidates(clauses, "q(X)", 0);
        candidates(clauses, "q(X,Y)", 2);
        candidates(clauses, "r", 0);
    }

    private void firstArguments() {
        due.sentence("and whose first argument, if there is one, and that of the goal are not both names .. that differ, or differ in the number of their arguments");
        String clauses = "p(a). p(b). p(f(a)). p(f(b)). p(f(a,b)). p([]). p([a]). p([b|c]).";
        String[] goals = {"p(a)", "p(b)", "p(c)", "p(f)", "p(f(a))", "p(f(c))", "p(f(X))", "p(f(X,Y))", "p(f(X,Y,Z))", "p([])", "p([c])", "p([X|Y])", "p(X)", "p(_)"};
        int[] counts = {1, 1, 0, 0, 2, 2, 2, 1, 0, 1, 2, 2, 8, 8};
        for (int k = 0; k < goals.length; k++) {
            candidates(clauses, goals[k], counts[k]);
            candidates("p(X). " + clauses + "p(_).", goals[k], counts[k] + 2);
        }
        candidates("p. p. p.", "p", 3);
        candidates("p(a,b). p(a,c). p(X,d). p(b,b).", "p(a,z)", 3);
        candidates("p(a,b). p(a,c). p(X,d). p(b,b).", "p(Y,b)", 4);
    }

    private void whatStandsNow() {
        due.sentence("(by what stands for variables now)");
        String clauses = "e(X,X). p(a). p(b). p(f(a)). p(X):-q. s(X,Y):-p(Y).";
        due.counts("nothing stands", after(2, clauses, "e(X,Y),p(X),q."), 2, 1, 2, 1);
        due.counts("b stands", after(2, clauses, "e(X,b),p(X),r."), 2, 1, 2, 1);
        PrunedSearch c = after(2, clauses, "e(X,c),p(X),r.");
        due.counts("c stands: the last clause alone", c, 2, 0, 2, 2);
        PrunedSearch chain = after(4, clauses, "e(X,Y),e(Y,Z),e(Z,c),p(X),r.");
        due.counts("by way of others", chain, 4, 0, 4, 2);
        PrunedSearch inside = after(3, clauses, "e(X,c),s(a,X),r.");
        due.counts("for a clause's variable", inside, 3, 0, 3, 2);
        PrunedSearch later = Due.search(clauses, "p(X),e(X,c).");
        due.same("not what will stand later", later.run(1), 2);
        due.counts("not what will stand later", later, 1, 1, 1, 1);
    }

    private void noCandidate() {
        due.sentence("No candidate: the branch fails.");
        due.counts("with a choice", after(2, TRIES, "x,none."), 1, 1, 1, 0);
        PrunedSearch x = Due.search(TRIES, "none,x.");
        due.same("without one", x.run(1), 0);
        due.counts("without one", x, 0, 0, 0, 0);
        PrunedSearch y = Due.search(TRIES, "y(c).");
        due.same("first arguments differ", y.run(1), 0);
        due.counts("first arguments differ", y, 0, 0, 0, 0);
        PrunedSearch z = Due.search(TRIES, "y(a).");
        due.same("one candidate", z.run(1), 1);
        due.counts("one candidate", z, 1, 0, 1, 0);
        PrunedSearch at60 = Due.search(TRIES, "t,w,w,w,w,w,none.");
        due.same("at length 60", at60.run(61), 0);
        due.counts("at length 60", at60, 60, 0, 60, 0);
    }

    private void deep() {
        due.sentence("One or more, and the length is 60: the search ends, DEEP");
        due.same("59", Due.search(TRIES, "t,w,w,w,w.").run(100), 1);
        due.same("60", Due.search(TRIES, "t,w,w,w,w,w.").run(100), 1);
        due.same("61", Due.search(TRIES, "t,w,w,w,w,w,w.").run(100), 3);
        due.same("61, several", Due.search(TRIES, "t,w,w,w,w,w,x.").run(100), 3);
        due.same("60, several", Due.search(TRIES, "t,w,w,w,w,x.").run(100), 1);
        due.same("true", Due.search(TRIES, "t,w,w,w,w,w,true.").run(100), 1);
        due.same("cut", Due.search(TRIES, "t,w,w,w,w,w,!.").run(100), 1);
        due.same("fail", Due.search(TRIES, "t,w,w,w,w,w,fail.").run(100), 0);
        due.same("no candidate", Due.search(TRIES, "t,w,w,w,w,w,none.").run(100), 0);
        due.same("candidates that do not fit", Due.search(TRIES + "v(_,a).", "t,w,w,w,w,w,v(a,b).").run(100), 3);
        PrunedSearch x = Due.search("l:-l.", "l.");
        due.same("60 steps", x.run(60), 2);
        due.counts("60 steps", x, 60, 0, 60, 1);
        due.same("the next one", x.run(1), 3);
        PrunedSearch y = Due.search(TRIES, "x,t,w,w,w,w,none.");
        due.same("failed at length 60, with a choice", y.run(61), 2);
        due.counts("failed at length 60, with a choice", y, 60, 1, 60, 0);
        due.same("goes back", y.run(1), 2);
        due.counts("goes back", y, 61, 0, 1, 6);
        PrunedSearch z = Due.search(TRIES, "t,w,w,w,w,x.");
        z.run(100);
        due.counts("a choice made at length 59", z, 60, 1, 60, 0);
        due.same("from there to length 60 again", z.run(1), 1);
        due.counts("from there to length 60 again", z, 61, 0, 60, 0);
    }

    private void deepPutsNothing() {
        due.sentence("(no choice is put, no try counted)");
        PrunedSearch x = Due.search(TRIES, "t,w,w,w,w,w,x.");
        due.same("run", x.run(61), 3);
        due.counts("two candidates", x, 60, 0, 60, 0);
        PrunedSearch y = Due.search(TRIES, "x,t,w,w,w,w,x,w.");
        due.same("run", y.run(61), 3);
        due.counts("two candidates and a choice before", y, 60, 1, 60, 1);
        PrunedSearch z = Due.search("d:-d. d.", "d,d.");
        due.same("run", z.run(60), 2);
        due.counts("60 choices", z, 60, 60, 60, 2);
        due.same("run", z.run(1), 3);
        due.counts("no choice more", z, 60, 60, 60, 1);
        due.same("again", z.run(100), 3);
        due.counts("again", z, 60, 60, 60, 1);
    }

    private void several() {
        due.sentence("Several: a choice is put behind the others, with the branch as it was before this step and all candidates but the first.");
        String[] counted = {"p(a).", "p(a).p(b).", "p(a).p(b).p(c)."};
        String[] answers = {"a ; 0", "a ; b ; 0", "a ; b ; c ; 0"};
        for (int k = 0; k < 3; k++) {
            PrunedSearch x = Due.search(counted[k], "p(X),true.");
            x.run(1);
            due.counts(counted[k], x, 1, k == 0 ? 0 : 1, 1, 1);
            due.same(counted[k], Due.answers(x, 1), answers[k]);
            due.same(counted[k], x.tries(), k + 1);
        }
        due.counts("behind the others", after(3, counted[1], "p(X),p(Y),p(Z),true."), 3, 3, 3, 1);
    }

    /** The largest branches: 60 tries, each with a clause of 40 symbols or of 8 goals. */
    private void resolvedWithTheFirst() {
        due.sentence("The branch is RESOLVED with the first one.");
        PrunedSearch first = Due.search("p(c). p(a). p(b).", "p(X).");
        due.same("run", first.run(1), 1);
        due.same("the first one", Due.text(first, 0), "c");
        PrunedSearch x = Due.with("w(" + LIST + ").");
        due.same("u", Due.consulted(x, "u(" + ReadingTest.list(11) + "):-" + "w(_),".repeat(7) + "w(_)."), 1);
        due.same("t", Due.consulted(x, "t(" + ReadingTest.list(13) + "):-u(_),u(_),u(_),u(_),u(_),u(_)."), 1);
        due.same("ask", Due.asked(x, "true,true,t(" + ReadingTest.list(13) + "),w(_),w(_),w(_),w(_),w(X)."), 1);
        due.same("60 clauses of 40 symbols", x.run(100), 1);
        due.counts("60 clauses of 40 symbols", x, 60, 0, 60, 0);
        due.same("the last one is whole", Due.text(x, 0), LIST);
        PrunedSearch y = Due.search("k:-true,true,true,true,true,true,true,k.", "!,!,!,!,!,!,!,k.");
        for (int k = 0; k < 60; k++) {
            due.same("clause " + k + " of 8 goals", y.run(8), 2);
            due.counts("clause " + k + " of 8 goals", y, k + 1, 0, k + 1, 8);
        }
        due.same("deep", y.run(8), 3);
    }

    /** After thousands of tries a branch is still as it was. */
    private void resolvedWithThatClause() {
        due.sentence("and the branch is resolved with that clause");
        PrunedSearch x = Due.search("p(1).p(2).p(3).p(4).p(5).p(6).p(7).p(8).p(9).q:-true,true,true,true,true,true,true,true.", "p(X),p(Y),p(Z),q,fail.");
        int calls = 1;
        for (int end = x.run(100); end == 2 && calls < 200; end = x.run(100)) {
            calls++;
        }
        due.same("the end", x.run(1), 0);
        due.counts("the end", x, 9 + 81 + 729 + 729, 0, 4, 0);
        // Every q takes 10 steps with its fail.
        due.same("calls of 100 steps", calls, (9 + 81 + 729 + 7290 + 99) / 100);
        PrunedSearch y = Due.search("p(" + LIST + "). p(f(" + ReadingTest.list(18) + ")). p(a).", "p(A),p(_),p(_),fail.");
        due.same("all of them fail", Due.answers(y, 1), "0");
        due.same("tries", y.tries(), 3 + 9 + 27);
        PrunedSearch z = Due.search("p(a). p(b). p(c).", "p(X).");
        due.same("each clause once", Due.answers(z, 1), "a ; b ; c ; 0");
    }

    private void branchOfTheChoice() {
        due.sentence("with the last of the choices: the branch becomes that of the choice, its first goal is taken away");
        String clauses = "p(a,b). p(X,X). p(c,d):-true,true. q(b,b). q(d,_).";
        PrunedSearch x = Due.search(clauses, "p(X,Y),q(X,Y),true.");
        due.same("p(a,b)", x.run(1), 2);
        due.counts("p(a,b)", x, 1, 1, 1, 2);
        due.same("q(a,b)", x.run(1), 2);
        due.counts("q(a,b)", x, 1, 1, 1, 0);
        due.same("p(X,X)", x.run(1), 2);
        due.counts("p(X,X)", x, 2, 1, 1, 2);
        due.same("to q(b,b)", x.run(2), 1);
        due.same("X and Y are made equal anew", Due.text(x, 0) + Due.text(x, 1), "bb");
        due.counts("q(b,b)", x, 3, 2, 2, 0);
        due.same("q(d,_)", x.run(2), 1);
        due.same("nothing of the other branch", Due.text(x, 0) + Due.text(x, 1), "dd");
        due.same("p(c,d)", x.run(1), 2);
        due.counts("p(c,d)", x, 5, 0, 1, 4);
        // The second clause of c is longer, so that what was built behind the first does not come again.
        String longer = "c(1). c(2):-true,true. d(1,a). d(2,b).";
        due.same("nothing stands for X again", Due.answers(Due.search(longer, "c(Y),d(Y,X)."), 2), "1 a ; 2 b ; 0");
    }

    private void lastOfTheChoices() {
        due.sentence("A step, when it failed, or was an answer: with the last of the choices");
        PrunedSearch x = Due.search("p(1). p(2). q(3). q(4).", "p(X),q(Y).");
        due.same("the last one first", Due.answers(x, 2), "1 3 ; 1 4 ; 2 3 ; 2 4 ; 0");
        PrunedSearch y = after(3, "p(1). p(2). q(3). q(4).", "p(X),q(Y),fail.");
        due.counts("failed", y, 2, 2, 2, 0);
        due.same("the last one when it failed", y.run(1), 2);
        due.counts("the last one when it failed", y, 3, 1, 2, 1);
        due.same("failed again", y.run(1), 2);
        due.same("the one before it", y.run(1), 2);
        due.counts("the one before it", y, 4, 0, 1, 2);
    }

    private void noneLeft() {
        due.sentence("the first of the candidates there is taken out of them (when none is left, the choice is dropped)");
        PrunedSearch x = Due.search("p(a). p(b). p(c).", "p(X).");
        int[] choices = {1, 1, 0};
        for (int k = 0; k < 3; k++) {
            due.same("run", x.run(1), 1);
            due.same("the next one", Due.text(x, 0), "abc".substring(k, k + 1));
            due.counts("candidate " + k, x, k + 1, choices[k], 1, 0);
        }
        due.same("none left", x.run(1), 0);
        PrunedSearch two = Due.search("p(a). p(b).", "p(X).");
        two.run(1);
        due.counts("one left", two, 1, 1, 1, 0);
        two.run(1);
        due.counts("none left", two, 2, 0, 1, 0);
    }

    private void lengthAndTries() {
        due.sentence("RESOLVED: the length grows by 1, the TRIES by 1.");
        String clauses = "r(X,a). r(X,b). o(X,f(X)).";
        PrunedSearch x = Due.search(clauses, "r(1,b),r(2,b).");
        due.same("a try that fails", x.run(1), 2);
        due.counts("a try that fails", x, 1, 1, 1, 0);
        due.same("one that does not", x.run(1), 2);
        due.counts("one that does not", x, 2, 0, 1, 1);
        due.same("fails again", x.run(1), 2);
        due.counts("fails again", x, 3, 1, 2, 0);
        due.same("the answer", x.run(1), 1);
        due.counts("the answer", x, 4, 0, 2, 0);
        PrunedSearch y = Due.search(clauses, "o(X,X).");
        due.same("the only try fails", y.run(1), 0);
        due.counts("the only try fails", y, 1, 0, 1, 0);
        PrunedSearch z = Due.search(clauses, "true,!,true.");
        due.same("no try", z.run(3), 1);
        due.counts("no try", z, 0, 0, 0, 0);
    }

    private void newVariables() {
        due.sentence("The clause gets new variables.");
        due.same("at every try", Due.answers(Due.search("e(X,X).", "e(A,a),e(B,b)."), 2), "a b ; 0");
        due.same("at every choice", Due.answers(Due.search("p(X,Y). p(X,X).", "p(A,B)."), 2), "_0 _1 ; _0 _0 ; 0");
        String app = "app([],X,X). app([A|X],Y,[A|Z]):-app(X,Y,Z).";
        due.same("in its own body", Due.answers(Due.search(app, "app([a,b,c],[d],X)."), 1), "[a,b,c,d] ; 0");
        due.same("not those of the question", Due.answers(Due.search("p(X,Y):-q(Y,X). q(a,X).", "p(Y,X)."), 2), "_0 a ; 0");
        due.same("not even those of the same name", Due.answers(Due.search("p(X,a).", "p(b,X)."), 1), "a ; 0");
    }

    private void answersTo(String question, String answers) {
        PrunedSearch x = Due.with("e(X,X). d(X,Y,X,Y). o(X,f(X)).");
        int variables = Due.asked(x, question);
        due.same(question, Due.answers(x, variables), answers);
    }

    private void mostGeneral() {
        due.sentence("Head and goal are made equal in the most general way (what stands for variables is taken into account");
        answersTo("e(X,Y).", "_0 _0 ; 0");
        answersTo("e(f(X,Y),f(Z,Z)).", "_0 _0 _0 ; 0");
        answersTo("e(f(X,Y),f(U,V)).", "_0 _1 _0 _1 ; 0");
        answersTo("e(f(X,g(Y)),f(Z,Z)).", "g(_0) _0 g(_0) ; 0");
        answersTo("d(X,Y,a,f(X)).", "a f(a) ; 0");
        answersTo("e(X,a),e(f(X),f(Y)).", "a a ; 0");
        answersTo("e(X,a),e(f(X),f(b)).", "0");
        answersTo("e(X,Y),e(Y,Z),e(X,a).", "a a a ; 0");
        answersTo("e(X,[a|Y]),e(X,[Z,b]).", "[a,b] [b] a ; 0");
    }

    private void noCircles() {
        due.sentence("a variable never comes to stand for a term that contains it, other than itself)");
        answersTo("e(X,X).", "_0 ; 0");
        answersTo("e(X,Y),e(Y,X).", "_0 _0 ; 0");
        answersTo("e(f(X),f(X)).", "_0 ; 0");
        answersTo("e(X,f(X)).", "0");
        answersTo("e(X,f(Y)).", "f(_0) _0 ; 0");
        answersTo("e(X,[X]).", "0");
        answersTo("e(X,[a|X]).", "0");
        answersTo("e(X,f(g(h(X)))).", "0");
        answersTo("e(f(X,Y),f(g(Y),g(X))).", "0");
        answersTo("e(f(X,Y),f(g(Y),g(a))).", "g(g(a)) g(a) ; 0");
        answersTo("e(X,f(Y)),e(Y,X).", "0");
        answersTo("e(X,f(Y)),e(Y,Z),e(X,Z).", "0");
        answersTo("e(X,f(Y)),e(X,f(f(Y))).", "0");
        answersTo("o(X,X).", "0");
        answersTo("o(X,Y),o(Y,X).", "0");
        answersTo("o(X,Y),o(Y,Z).", "_0 f(_0) f(f(_0)) ; 0");
    }

    private void cannotBeEqual() {
        due.sentence("when that can't be, the branch fails");
        String clauses = "p(X,a). p(X,f(b)). q. w(" + LIST + "). k(_,_,_,_). v(X,X,X,a).";
        PrunedSearch x = Due.search(clauses, "p(1,b),q.");
        due.same("with a choice", x.run(1), 2);
        due.counts("with a choice", x, 1, 1, 1, 0);
        due.same("without one", x.run(1), 0);
        due.counts("without one", x, 2, 0, 1, 0);
        due.same("it can", Due.search(clauses, "p(1,f(b)),q.").run(9), 1);
        due.same("deep inside", Due.search(clauses, "p(1,f(c)),q.").run(9), 0);
        due.same("121 symbols", Due.search(clauses, "w(A),k(E,F,G,H),v(C,D,A,a).").run(9), 4);
        due.same("failed, so not too large", Due.search(clauses, "w(A),k(E,F,G,H),v(C,D,A,b).").run(9), 0);
    }

    private void bodyFirst() {
        due.sentence("Otherwise the body comes before the goals that are left");
        String clauses = "a:-fail. l:-l. b:-c(X),d(X). c(1). c(2). d(2). f:-true,fail,l. e(X):-c(X). e(3).";
        due.same("before", Due.answers(Due.search(clauses, "a,l."), 0), "0");
        due.same("in its order", Due.answers(Due.search(clauses, "f,l."), 0), "0");
        due.same("and then what is left", Due.answers(Due.search(clauses, "b,l."), 0), "3");
        due.same("the answers of the body first", Due.answers(Due.search(clauses, "e(X),c(Y)."), 2), "1 1 ; 1 2 ; 2 1 ; 2 2 ; 3 1 ; 3 2 ; 0");
        due.counts("a body of two", after(1, clauses, "b,true,true."), 1, 0, 1, 4);
    }

    private void cutOfTheBody() {
        due.sentence("each of its goals with the number of choices in front of that choice");
        String clauses = "p(1). p(2). q(X):-p(X),!. q(9). r(X):-p(X). r(X):-p(X),!,true. r(9). s(8). s(X):-p(X),!,p(_).";
        due.same("the first clause's cut", Due.answers(Due.search(clauses, "q(X)."), 1), "1 ; 0");
        due.same("choices in front stay", Due.answers(Due.search(clauses, "p(A),q(X)."), 2), "1 1 ; 2 1 ; 0");
        PrunedSearch x = after(3, clauses, "p(A),q(X),true.");
        due.counts("before the cut", x, 3, 3, 3, 2);
        x.run(1);
        due.counts("behind the cut", x, 3, 1, 3, 1);
        due.same("a later clause's cut", Due.answers(Due.search(clauses, "p(A),r(X)."), 2), "1 1 ; 1 2 ; 1 1 ; 2 1 ; 2 2 ; 2 1 ; 0");
        due.same("the last clause's cut", Due.answers(Due.search(clauses, "p(A),s(X)."), 2), "1 8 ; 1 1 ; 1 1 ; 2 8 ; 2 1 ; 2 1 ; 0");
        PrunedSearch y = Due.search(clauses, "p(A),s(X).");
        y.run(2);
        due.same("the last clause", y.run(1), 2);
        due.counts("the choice is dropped with it", y, 3, 1, 2, 3);
        due.same("its p", y.run(1), 2);
        due.counts("its p", y, 4, 2, 3, 2);
        due.same("its cut", y.run(1), 2);
        due.counts("its cut leaves the one in front", y, 4, 1, 3, 1);
    }

    private void cutWithoutChoice() {
        due.sentence("or, if no choice was made for this goal, the number of choices");
        String clauses = "p(1). p(2). q(X):-p(X),!. k:-!. m:-k,k.";
        due.same("the only clause's cut", Due.answers(Due.search(clauses, "q(X)."), 1), "1 ; 0");
        due.same("the only clause's cut", Due.answers(Due.search(clauses, "p(A),q(X)."), 2), "1 1 ; 2 1 ; 0");
        due.counts("none in front", after(3, clauses, "q(X),true."), 2, 0, 2, 1);
        due.counts("one in front", after(4, clauses, "p(A),q(X),true."), 3, 1, 3, 1);
        due.counts("two in front", after(5, clauses, "p(A),p(B),q(X),true."), 4, 2, 4, 1);
        due.counts("nothing to drop", after(6, clauses, "p(A),m,true."), 4, 1, 4, 1);
    }

    private void large() {
        due.sentence("are more than 120 together, the search ends, LARGE");
        String clauses = "w(" + LIST + "). u(_).";
        PrunedSearch x = Due.search(clauses, "w(A),w(B),w(C),u(D).");
        due.same("A, B and C 117, D 1, u(D) 2: 120", x.run(3), 2);
        due.counts("120", x, 3, 0, 3, 1);
        due.same("goes on", x.run(1), 1);
        PrunedSearch y = Due.search(clauses, "w(A),w(B),w(C),u(a),a.");
        due.same("120 without D", y.run(3), 2);
        PrunedSearch z = Due.search(clauses, "w(A),w(B),w(C),u(f(D)).");
        due.same("121", z.run(3), 4);
        due.counts("121", z, 3, 0, 3, 1);
        due.same("121 for ever", z.run(100), 4);
        due.counts("121 for ever", z, 3, 0, 3, 1);
        PrunedSearch choice = Due.search(clauses + "c. c.", "c,w(A),w(B),w(C),u(f(D)).");
        due.same("a choice does not help", choice.run(9), 4);
        due.counts("a choice does not help", choice, 4, 1, 4, 1);
    }

    private void symbolsOfGoals() {
        due.sentence("if the symbols of all goals");
        // 39 for A, and the goals behind w(A): 81 make 120.
        String forty = "w(" + LIST + "). g(X):-h(X),h(X). h(X). g2(X):-h(X),h(X),!. i(X):-i(f(X,X)).";
        due.same("39 + 40 + 40", Due.search(forty, "w(A),g(A).").run(2), 2);
        due.same("39 + 40 + 40 + 1", Due.search(forty, "w(A),g(A),true.").run(2), 2);
        due.same("39 + 40 + 40 + 1 and a cut", Due.search(forty, "w(A),g(A),!,true.").run(2), 4);
        due.same("39 + 40 + 40 + 1 in the body", Due.search(forty, "w(A),g2(A).").run(2), 2);
        due.same("and one behind it", Due.search(forty, "w(A),g2(A),!.").run(2), 4);
        PrunedSearch x = Due.search(forty, "i(a).");
        due.same("64 symbols", x.run(5), 2);
        due.same("128 symbols", x.run(1), 4);
        due.counts("128 symbols", x, 6, 0, 6, 1);
    }

    private void symbolsOfVariables() {
        due.sentence("and of all terms that stand for the VARIABLES of the question but those that are _ alone");
        String clauses = "w(" + LIST + "). v(_,_,_). e(X,X).";
        due.same("three of 39 and three of 1", Due.search(clauses, "v(D,E,F),w(A),w(B),w(C).").run(9), 1);
        due.same("three of 39 and none alone", Due.search(clauses, "v(D,E,_),w(A),w(B),w(C).").run(9), 1);
        due.same("three of 39 and one of 3", Due.search(clauses, "e(D,f(g(a))),w(A),w(B),w(C).").run(9), 1);
        due.same("three of 39 and one of 4", Due.search(clauses, "e(D,f(g(h(a)))),w(A),w(B),w(C).").run(9), 4);
        due.same("four of 39", Due.search(clauses, "w(A),w(B),w(C),w(D).").run(9), 4);
        due.same("four of 39, one alone", Due.search(clauses, "w(_),w(B),w(C),w(D).").run(9), 1);
        due.same("four of 39, all alone", Due.search(clauses, "w(_),w(_),w(_),w(_).").run(9), 1);
        due.same("one that begins with _ is not alone", Due.search(clauses, "w(_1),w(__),w(_a),w(_A).").run(9), 4);
        due.same("one term, as often as it stands for one", Due.search(clauses, "e(A,B),e(B,C),w(A).").run(9), 1);
        due.same("four times", Due.search(clauses, "e(A,B),e(B,C),e(C,D),w(A).").run(9), 4);
    }

    private void nothingStands() {
        due.sentence("(1 for one for which nothing stands), by what stands for variables");
        String clauses = "w(" + LIST + "). v(_,_,_). k(_). e(X,X).";
        due.same("117 and 3", Due.search(clauses, "v(D,E,F),w(A),w(B),w(C).").run(9), 1);
        due.same("117 and 4", Due.search(clauses, "v(D,E,F),k(G),w(A),w(B),w(C).").run(9), 4);
        due.same("117 and 4 equal ones", Due.search(clauses, "e(D,E),e(F,G),e(E,F),w(A),w(B),w(C).").run(9), 4);
        due.same("117, 1 and f(D)", Due.search(clauses, "e(E,f(D)),w(A),w(B),w(C).").run(9), 1);
        due.same("117, 1 and f(f(D))", Due.search(clauses, "e(E,f(f(D))),w(A),w(B),w(C).").run(9), 4);
    }

    private void largeWithoutGoals() {
        due.sentence("(also when no goal is left)");
        String clauses = "w(" + LIST + "). v(_,_,_). v(_,_,_,_).";
        PrunedSearch x = Due.search(clauses, "v(D,E,F),w(A),w(B),w(C).");
        due.same("120", x.run(4), 1);
        due.same("the text of C", Due.text(x, 5), LIST);
        PrunedSearch y = Due.search(clauses, "v(D,E,F,G),w(A),w(B),w(C).");
        due.same("121", y.run(4), 4);
        due.counts("121", y, 4, 0, 4, 0);
        due.same("no answer", y.answer(0, 0), 0);
        due.same("nor later", y.run(1), 4);
    }

    private void answer() {
        due.sentence("When, after a step, no goal is left and the branch did not fail, it is an ANSWER.");
        String clauses = "p(a). p(b). q:-true. r:-!.";
        String[] questions = {"true.", "!.", "p(a).", "true,!.", "p(X),true.", "q.", "r."};
        int[] steps = {1, 1, 1, 2, 2, 2, 2};
        for (int k = 0; k < questions.length; k++) {
            PrunedSearch x = Due.search(clauses, questions[k]);
            for (int step = 1; step < steps[k]; step++) {
                due.same("goals are left: " + questions[k], x.run(1), 2);
            }
            due.same("none is left: " + questions[k], x.run(1), 1);
            due.same("goals() of " + questions[k], x.goals(), 0);
        }
        due.same("failed with its last goal", Due.search(clauses, "p(X),fail.").run(2), 2);
        due.same("failed with its last goal, no choice", Due.search(clauses, "fail.").run(1), 0);
    }

    private void empty() {
        due.sentence("When it failed, and there is no choice, the search ends, EMPTY.");
        due.same("no choice", Due.search("p.", "fail.").run(1), 0);
        PrunedSearch x = Due.search("p. p.", "p,fail.");
        due.same("a choice", x.run(2), 2);
        due.counts("a choice", x, 1, 1, 1, 0);
        due.same("its last candidate", x.run(1), 2);
        due.same("no choice more", x.run(1), 0);
        due.counts("no choice more", x, 2, 0, 1, 0);
        due.same("again", x.run(1), 0);
        due.counts("again", x, 2, 0, 1, 0);
        PrunedSearch y = Due.search("p. p.", "p,!,fail.");
        due.same("the choice was dropped", y.run(2), 2);
        due.same("so it ends", y.run(1), 0);
    }

    private void emptyWithoutStep() {
        due.sentence("(So it does without a step when it is to go on from an answer and there is no choice.)");
        PrunedSearch x = Due.search("p(a). p(b).", "p(b),true.");
        due.same("the answer", x.run(2), 1);
        String before = x.tries() + " " + x.choices() + " " + x.length() + " " + x.goals();
        due.same("the end", x.run(1), 0);
        due.same("no step", x.tries() + " " + x.choices() + " " + x.length() + " " + x.goals(), before);
        due.same("again", x.run(1), 0);
        PrunedSearch y = Due.search("p(a). p(b).", "p(X),true.");
        due.same("the answer", y.run(2), 1);
        due.same("a choice: a step", y.run(1), 2);
        due.counts("a choice: a step", y, 2, 0, 1, 1);
        due.same("the last answer", y.run(1), 1);
        due.same("the end", y.run(1), 0);
        due.counts("the end", y, 2, 0, 1, 0);
        PrunedSearch z = Due.search("", "true.");
        due.same("without a try", z.run(1), 1);
        due.same("the end", z.run(1), 0);
        due.counts("the end", z, 0, 0, 0, 0);
    }
}
