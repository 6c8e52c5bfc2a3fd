import java.util.Random;

/** All promises: random runs of calls, each answer compared with that of PlainSearch. */
final class ComparedTest {
    private static final int RUNS = 6000;
    private static final int MOST_CALLS = 512;
    private static final String[] PROGRAMS = {
        "app([],X,X). app([A|X],Y,[A|Z]):-app(X,Y,Z).",
        "rev([],[]). rev([H|T],R):-rev(T,S),app(S,[H],R). app([],X,X). app([A|X],Y,[A|Z]):-app(X,Y,Z).",
        "mem(X,[X|_]). mem(X,[_|T]):-mem(X,T). one(X,L):-mem(X,L),!. p(L):-mem(f(X),L),one(X,L).",
        "e(a,b). e(b,c). e(c,a). t(X,Y):-e(X,Y). t(X,Y):-e(X,Z),t(Z,Y).",
        "n(z). n(s(X)):-n(X). l(X):-l(X). big(X):-big(f(X,X)). o(X,f(X)). q(X,X). q(_,_).",
        "not(a):-!,fail. not(_). p(a). p(b). p(c). r(X):-p(X),not(X),!. r(z). s(X):-p(X),r(X).",
        "d(0,z). d(s(N),f(X,X)):-d(N,X). d(_,g). w(X):-d(s(s(s(s(s(0))))),X).",
        "p(1). p(2). p(3). q(X):-p(X),!. q(9). r(X,Y):-q(X),p(Y). r(X,X):-p(X),true. c:-!. c:-c,fail.",
    };
    private static final String[] QUESTIONS = {
        "app(X,Y,[1,2,3]).", "app(X,[1],Y).", "rev([a,b,c],X).", "rev(X,[a,b]).", "mem(X,[a,B,c|D]).", "p([f(a),a,f(c),c]).",
        "t(a,X),t(X,Y).", "n(X).", "l(a).", "big(Y).", "o(X,X).", "o(X,Y),o(Z,_).", "q(f(X),Y),q(Y,X).", "r(X).", "s(X).",
        "d(X,Y).", "w(X),q(X,Y).", "r(X,Y),p(Z).", "p(X),!.", "!,fail.", "true.", "r(X,Y),!,p(Z),fail.", "c.", "one(X,[a,b,a]),r(X).",
    };
    private static final String[] TOKENS = {
        "a", "b", "p", "X", "Y", "_", "_a", "f", "0", "true", "fail", "(", "(", ")", ")", ",", ",", ".", ".", "!", "[", "]", "[]", "|",
        ":-", ":", "-", " ", "  ", "abcdefgh", "abcdefghi", "X2345678", "X23456789",
    };

    private final Due due;
    private final Random random;
    private final int[] ends = new int[5];
    private int wrongTexts = 0;
    private int muchTexts = 0;
    private PrunedSearch program;
    private PlainSearch plain;
    private int calls;
    private String now;

    private ComparedTest(Due due, long seed) {
        this.due = due;
        this.random = new Random(seed);
    }

    public static void main(String[] args) {
        Due due = new Due();
        ComparedTest test = new ComparedTest(due, 20261115L);
        for (int run = 0; run < RUNS; run++) {
            test.runOne(run);
        }
        for (int end = 0; end < 5; end++) {
            due.holds("run answered " + end + " often, " + test.ends[end] + " times", test.ends[end] > 500);
        }
        due.holds("many texts were wrong, " + test.wrongTexts, test.wrongTexts > 2000);
        due.holds("many texts were too much, " + test.muchTexts, test.muchTexts > 200);
        due.finish();
    }

    private void runOne(int run) {
        program = new PrunedSearch();
        plain = new PlainSearch();
        calls = 0;
        int style = random.nextInt(4);
        for (int k = 0; k < 400 && calls < MOST_CALLS - 130; k++) {
            now = "run " + run + " of ComparedTest, call " + calls;
            act(style);
            if (random.nextInt(3) == 0) {
                compareCounts();
            }
        }
    }

    private void act(int style) {
        int dice = random.nextInt(100);
        if (dice < 2) {
            program.forget();
            plain.forget();
            calls++;
        } else if (dice < 12) {
            typeText(clausesText(style));
            read(random.nextInt(12) != 0);
        } else if (dice < 30) {
            typeText(questionText(style));
            read(random.nextInt(12) == 0);
        } else if (dice < 33) {
            typeRow(random.nextLong() & (random.nextBoolean() ? -1L : 0x7f7f7f7f7f7f7f7fL));
        } else if (dice < 90) {
            runSteps();
        } else {
            compareAnswers();
        }
    }

    private void read(boolean asClauses) {
        int got = asClauses ? program.consult() : program.ask();
        int want = asClauses ? plain.consult() : plain.ask();
        calls++;
        due.same(now + (asClauses ? ": consult()" : ": ask()"), got, want);
        wrongTexts += want < 0 && want != -1000 ? 1 : 0;
        muchTexts += want == -1000 ? 1 : 0;
    }

    private void runSteps() {
        int dice = random.nextInt(20);
        int n = dice == 0 ? random.nextInt(5) - 2 : dice == 1 ? 99 + random.nextInt(4) : dice < 12 ? 1 + random.nextInt(5) : 1 + random.nextInt(100);
        int want = plain.run(n);
        calls++;
        due.same(now + ": run(" + n + ")", program.run(n), want);
        if (want >= 0) {
            ends[want]++;
        }
        if (want == 1 && random.nextInt(3) == 0) {
            compareAnswers();
        }
    }

    private void compareCounts() {
        due.same(now + ": clauses()", program.clauses(), plain.clauses());
        due.counts(now, program, plain.tries(), plain.choices(), plain.length(), plain.goals());
        calls += 5;
    }

    /** The whole texts now and then, else single places, so that few of the 512 calls are spent. */
    private void compareAnswers() {
        int from = random.nextInt(3) - 1;
        for (int v = from; v < from + 3; v++) {
            for (int i = -1; i < 24 && calls < MOST_CALLS - 20; i++) {
                due.same(now + ": answer(" + v + ", " + i + ")", program.answer(v, i), plain.answer(v, i));
                calls++;
                if (i >= 0 && plain.answer(v, i) == 0) {
                    break;
                }
            }
        }
        int v = random.nextInt(9);
        int i = random.nextInt(300);
        due.same(now + ": answer(" + v + ", " + i + ")", program.answer(v, i), plain.answer(v, i));
        calls++;
    }

    private void typeText(String text) {
        for (int from = 0; from < text.length(); from += 8) {
            typeRow(Due.row(text, from));
        }
    }

    private void typeRow(long row) {
        due.same(now + ": type(" + row + ")", program.type(row) ? 1 : 0, plain.type(row) ? 1 : 0);
        calls++;
    }

    // ---- texts

    private String clausesText(int style) {
        if (style == 0) {
            return spoilt(PROGRAMS[random.nextInt(PROGRAMS.length)], 8);
        }
        if (style == 1) {
            return soup();
        }
        StringBuilder text = new StringBuilder();
        int count = random.nextInt(style == 2 ? 9 : 6);
        for (int k = 0; k < count; k++) {
            text.append(goal(3));
            if (random.nextInt(3) != 0) {
                text.append(":-").append(goals(random.nextInt(30) == 0 ? 10 : 3));
            }
            text.append(random.nextBoolean() ? "." : ". ");
        }
        return spoilt(text.toString(), 10);
    }

    private String questionText(int style) {
        if (style == 0) {
            return spoilt(QUESTIONS[random.nextInt(QUESTIONS.length)], 8);
        }
        if (style == 1 && random.nextInt(3) != 0) {
            return soup();
        }
        return spoilt(goals(random.nextInt(20) == 0 ? 10 : 3) + ".", 10);
    }

    private String goals(int most) {
        StringBuilder text = new StringBuilder(bodyGoal());
        int more = random.nextInt(most);
        for (int k = 0; k < more; k++) {
            text.append(',').append(bodyGoal());
        }
        return text.toString();
    }

    private String bodyGoal() {
        int dice = random.nextInt(20);
        return dice < 3 ? "!" : dice == 3 ? "true" : dice == 4 ? "fail" : goal(2);
    }

    private String goal(int depth) {
        String[] heads = {"p", "p", "q", "q", "r"};
        String head = heads[random.nextInt(heads.length)];
        int arguments = head.equals("p") ? 1 : head.equals("q") ? 2 : random.nextInt(3);
        return compound(head, arguments, depth);
    }

    private String compound(String head, int arguments, int depth) {
        StringBuilder text = new StringBuilder(head);
        for (int k = 0; k < arguments; k++) {
            text.append(k == 0 ? '(' : ',').append(term(depth - 1));
        }
        return text.append(arguments == 0 ? "" : ")").toString();
    }

    private String term(int depth) {
        int dice = random.nextInt(depth <= 0 ? 10 : 14);
        if (dice < 6) {
            String[] variables = {"X", "X", "Y", "Y", "Z", "_", "_1", "U", "V", "W", "N", "M"};
            return variables[random.nextInt(random.nextInt(3) == 0 ? variables.length : 5)];
        }
        if (dice < 9) {
            String[] names = {"a", "b", "1", "z0"};
            return random.nextInt(60) == 0 ? "k" + random.nextInt(30) : names[random.nextInt(names.length)];
        }
        if (dice == 9) {
            return "[]";
        }
        if (dice < 12) {
            String head = random.nextInt(3) == 0 ? "g" : "f";
            return compound(head, random.nextInt(80) == 0 ? 5 : 1 + random.nextInt(head.equals("g") ? 3 : 2), depth);
        }
        StringBuilder text = new StringBuilder("[").append(term(depth - 1));
        for (int k = random.nextInt(3); k > 0; k--) {
            text.append(',').append(term(depth - 1));
        }
        return text.append(random.nextBoolean() ? "|" + term(depth - 1) : "").append(']').toString();
    }

    private String soup() {
        StringBuilder text = new StringBuilder(random.nextInt(3) == 0 ? "" : "p(X)" + (random.nextBoolean() ? ":-q" : ""));
        int count = random.nextInt(12);
        for (int k = 0; k < count; k++) {
            text.append(TOKENS[random.nextInt(TOKENS.length)]);
        }
        if (random.nextInt(12) == 0) {
            text.append(random.nextBoolean() ? "(" : "p(");
            text.append("[".repeat(12 + random.nextInt(6))).append(random.nextBoolean() ? "a" : "");
            text.append("]".repeat(random.nextInt(18))).append(").");
        }
        return text.toString();
    }

    /** The text, and one time in so many with a mistake in it. */
    private String spoilt(String text, int onceIn) {
        if (text.isEmpty() || random.nextInt(onceIn) != 0) {
            return text;
        }
        int place = random.nextInt(text.length());
        String token = TOKENS[random.nextInt(TOKENS.length)];
        int skip = random.nextInt(3);
        return text.substring(0, place) + (random.nextBoolean() ? token : "") + text.substring(Math.min(text.length(), place + skip));
    }
}
