/** What a TERM, a GOAL, a CLAUSE and a QUESTION is, what is WRONG, and where the FAULT is. */
final class WrongEdgesTest {
    private final Due due = new Due();

    public static void main(String[] args) {
        WrongEdgesTest test = new WrongEdgesTest();
        test.due.each(
            test::terms, test::oneOrMoreArguments, test::lists, test::goals, test::clauses, test::questions,
            test::noRowOfClauses, test::noQuestion, test::firstCharacter, test::firstToken,
            test::firstStrangeCharacter, test::nothingGoesOn, test::endsTooEarly, test::colonAlone,
            test::dashAlone, test::longWord, test::sixteenOpen, test::openAtTheSameTime,
            test::placeOfTheSixteenth);
    }

    /** The same answer as a clause and as a question, 1 and 0 when it is right. */
    private void both(String text, int fault) {
        due.consults(text, fault < 0 ? 1 : -1 - fault);
        due.asks(text, fault < 0 ? 0 : -1 - fault);
    }

    private void right(String text) {
        both(text, -1);
    }

    private void terms() {
        due.sentence("A TERM is a VARIABLE; a NAME;");
        String[] rights = {"X", "_", "_a", "a", "0", "true", "fail"};
        for (String term : rights) {
            due.consults("p(" + term + ").", 1);
            due.consults("p([a|" + term + "]).", 1);
        }
        String[] wrongs = {"!", ":-", ",", ".", "|", "]", "(", ")", ":", "-"};
        for (String term : wrongs) {
            both("p(" + term + ").", 2);
            both("p([a|" + term + "]).", 5);
            both("p([" + (term.equals("]") ? "a,]" : term) + "]).", term.equals("]") ? 5 : 3);
        }
    }

    private void oneOrMoreArguments() {
        due.sentence("a NAME, (, one or more terms with , between them, )");
        right("p.");
        right("p(a).");
        right("p(a,b).");
        right("p(a,b,c,d).");
        both("p().", 2);
        both("p( ).", 3);
        both("p(a,).", 4);
        both("p(,a).", 2);
        both("p(a,,b).", 4);
        both("p(a b).", 4);
        both("p(a.", 3);
        both("p(a].", 3);
        both("p(a|b).", 3);
        both("p(a)(b).", 4);
        both("p((a)).", 2);
        both("p(X(a)).", 3);
        both("p([](a)).", 4);
        both("p(!).", 2);
        both("p(a:-b).", 3);
    }

    private void lists() {
        due.sentence("[ ]; or [, one or more terms with , between them, perhaps | and a term, ]");
        right("p([]).");
        right("p([ ]).");
        right("p([a]).");
        right("p([a,b]).");
        right("p([a|b]).");
        right("p([a,b|c]).");
        right("p([a|[b|[]]]).");
        both("p([,]).", 3);
        both("p([,a]).", 3);
        both("p([a,]).", 5);
        both("p([a,,b]).", 5);
        both("p([a b]).", 5);
        both("p([|a]).", 3);
        both("p([a|]).", 5);
        both("p([a,|b]).", 5);
        both("p([a|b,c]).", 6);
        both("p([a|b|c]).", 6);
        both("p([a)).", 4);
        both("p([!]).", 3);
        both("p([a|!]).", 5);
        both("p(]).", 2);
    }

    private void goals() {
        due.sentence("A GOAL is ! or a term that begins with a NAME.");
        String[] rights = {"!", "a", "0", "a(X)", "a([])"};
        for (String goal : rights) {
            due.consults("p:-" + goal + ".", 1);
            due.consults("p:-!," + goal + ",q.", 1);
            due.holds("ask " + goal, Due.asked(new PrunedSearch(), goal + ".") >= 0);
            due.holds("ask !," + goal, Due.asked(new PrunedSearch(), "!," + goal + ".") >= 0);
        }
        String[] wrongs = {"X", "_", "[]", "[a]", "(a)", "|", "]", ")"};
        for (String goal : wrongs) {
            due.consults("p:-" + goal + ".", -4);
            due.consults("p:-!," + goal + ",q.", -6);
            due.asks(goal + ".", -1);
            due.asks("!," + goal + ".", -3);
        }
        due.asks("!(a).", -2);
        due.asks("!!.", -2);
    }

    private void clauses() {
        due.sentence("A CLAUSE is a term that begins with a NAME (its HEAD), perhaps :- and one or more goals with , between them (its BODY), and then .");
        due.consults("p.", 1);
        due.consults("p(X).", 1);
        due.consults("p:-a.", 1);
        due.consults("p:-a,b.", 1);
        due.consults("p:-.", -4);
        due.consults("p:-,a.", -4);
        due.consults("p:-a,.", -6);
        due.consults("p:-a b.", -6);
        due.consults("p:-a:-b.", -5);
        due.consults("p,q.", -2);
        due.consults("p", -2);
        due.consults("p:-a", -5);
        String[] heads = {"X.", "_.", "!.", "[].", "[a].", "(p).", ".", ":-a.", ",p."};
        for (String head : heads) {
            due.consults(head, -1);
            due.consults("p." + head, -3);
        }
    }

    private void questions() {
        due.sentence("A QUESTION is one or more goals with , between them, and then .");
        due.asks("a.", 0);
        due.asks("a,b.", 0);
        due.asks("!.", 0);
        due.asks(".", -1);
        due.asks(",a.", -1);
        due.asks("a,.", -3);
        due.asks("a,,b.", -3);
        due.asks("a b.", -3);
        due.asks("a", -2);
        due.asks("a,b", -4);
        due.asks("p:-a.", -2);
        due.asks(":-a.", -1);
    }

    private void noRowOfClauses() {
        due.sentence("The text is WRONG as clauses when it is no row of clauses (an empty row is one)");
        due.consults("", 0);
        due.consults(" ", 0);
        due.consults(" ".repeat(240), 0);
        due.consults("p.", 1);
        due.consults("p.q:-r.", 2);
        due.consults("p." + " ".repeat(238), 1);
        due.consults("p..", -3);
        due.consults("p.q", -4);
        due.consults(".", -1);
    }

    private void noQuestion() {
        due.sentence("as a question when it is no question");
        due.asks("", -1);
        due.asks(" ", -2);
        due.asks(" ".repeat(240), -241);
        due.asks("p.", 0);
        due.asks("p." + " ".repeat(238), 0);
        due.asks("p.q.", -3);
        due.asks("p. q", -4);
        due.asks("p..", -3);
        due.asks("p.!", -3);
        due.asks("p. :", -4);
        due.asks("p. abcdefghi", -4);
    }

    private void firstCharacter() {
        due.sentence("the FAULT is the place (0 for the first character)");
        both("X.", 0);
        both(" X.", 1);
        both(" ".repeat(238) + "X.", 238);
        both(" ".repeat(239) + "X", 239);
        both(" ".repeat(239) + "p", 240);
    }

    private void firstToken() {
        due.sentence("of the first token");
        both("p(,) X :", 2);
        both("p(a abcd).", 4);
        both("p( a  Xyz).", 6);
        due.consults("p(a)  :-:- .", -9);
        due.asks("p(a)  :-:- .", -7);
        due.consults("p:-:-q.", -4);
        due.consults("p.q.X.p(.", -5);
    }

    private void firstStrangeCharacter() {
        due.sentence("or of the first character that can't belong to a token");
        both("p:", 1);
        both("p-", 1);
        both("p(a,:).", 4);
        both("p(a:).", 3);
        both("p) :", 1);
        both("p:)", 1);
        both("p(a, abcdefghi, :", 5);
        both("p(a, : abcdefghi", 5);
    }

    private void nothingGoesOn() {
        due.sentence("such that nothing that begins with what stands before it and goes on with it is right");
        both("p(a.b).", 3);
        both("p(a,[b)].", 6);
        both("p([a|b,c,d]).", 6);
        due.consults("p:-q(X),Y,r.", -9);
        due.asks("q(X),Y,r.", -6);
        due.consults("p:-q.r:-s.t:-U.", -14);
        due.asks("p,q.r.", -5);
    }

    private void endsTooEarly() {
        due.sentence("the length of the text (with blanks at its end), if it is right as far as it goes but ends too early");
        tooEarly("p(X,[a,b|c]):-q(X,[]),!,r.", true);
        tooEarly("p(X,[a,b|c],[]),!,r(s(t)).", false);
        both("p(" + " ".repeat(237), 239);
        both("p(" + " ".repeat(238), 240);
        both("p" + " ".repeat(239), 240);
    }

    /** Every beginning of a right text ends too early, but behind the : of a :- the fault is there. */
    private void tooEarly(String text, boolean clause) {
        for (int size = 1; size < text.length(); size++) {
            String part = text.substring(0, size);
            for (int blanks = 0; blanks < 4; blanks++) {
                int fault = part.endsWith(":") ? size - 1 : size + blanks;
                if (clause) {
                    due.consults(part + " ".repeat(blanks), -1 - fault);
                    due.consults("p. " + part + " ".repeat(blanks), -4 - fault);
                } else {
                    due.asks(part + " ".repeat(blanks), -1 - fault);
                }
            }
        }
        due.same(text, clause ? Due.consulted(new PrunedSearch(), text) : Due.asked(new PrunedSearch(), text), 1);
    }

    private void colonAlone() {
        due.sentence("A : without -");
        due.consults("p:-q.", 1);
        due.consults("p:q.", -2);
        due.consults("p: -q.", -2);
        due.consults("p::-q.", -2);
        due.consults("p:", -2);
        due.consults("p :  ", -3);
        due.consults(":", -1);
        due.consults("p.:", -3);
        due.consults(" ".repeat(239) + ":", -240);
    }

    private void dashAlone() {
        due.sentence("a - without : before it");
        due.consults("p:-q.", 1);
        due.consults("p-q.", -2);
        due.consults("p:--q.", -4);
        due.consults("p-:q.", -2);
        due.consults("-", -1);
        due.consults("p(-).", -3);
        due.asks("-p.", -1);
        due.asks("p,-.", -3);
        due.consults(" ".repeat(239) + "-", -240);
    }

    private void longWord() {
        due.sentence("and a word of more than 8 characters, at its first one, are such characters");
        due.consults("a2345678.", 1);
        due.consults("a23456789.", -1);
        due.consults("a234567890.", -1);
        due.consults("a".repeat(240), -1);
        due.consults("  a23456789.", -3);
        due.consults("p(X,A23456789).", -5);
        due.consults("p(X,A2345678).", 1);
        due.consults("p:-q,a23456789", -6);
        due.consults("p:-q,a2345678", -14);
        due.consults("p a23456789", -3);
        due.consults("p) a23456789", -2);
    }

    private void sixteenOpen() {
        due.sentence("More than 15 of ( and [ that are open at the same time are wrong too");
        for (int open = 14; open <= 17; open++) {
            int fault = open <= 15 ? -1 : 1 + 2 * 15;
            both("f(".repeat(open) + "a" + ")".repeat(open) + ".", fault);
            int inLists = open <= 15 ? -1 : 2 + 14;
            both("p(" + "[".repeat(open - 1) + "a" + "]".repeat(open - 1) + ").", inLists);
            both("p(" + "[".repeat(open - 1) + "]".repeat(open - 1) + ").", inLists);
            both("p(" + "[".repeat(open - 1) + "a|b" + "]".repeat(open - 1) + ").", inLists);
            due.consults("p:-q," + "f(".repeat(open) + "a" + ")".repeat(open) + ".", open <= 15 ? 1 : -1 - 5 - fault);
            due.consults("p(a).q([]). " + "f(".repeat(open) + "a" + ")".repeat(open) + ".", open <= 15 ? 3 : -1 - 12 - fault);
        }
        due.consults("p(" + "[a|".repeat(14) + "b" + "]".repeat(14) + ").", 1);
        due.consults("p(" + "[a|".repeat(15) + "b" + "]".repeat(15) + ").", -1 - 2 - 14 * 3);
    }

    private void openAtTheSameTime() {
        due.sentence("open at the same time");
        String eight = "f(".repeat(8) + "a" + ")".repeat(8);
        String lists = "[".repeat(8) + "]".repeat(8);
        due.consults("p(" + eight + "," + eight + "," + lists + ").", 1);
        due.consults("p([" + eight + "," + lists + "|" + eight + "]).", 1);
        due.consults(eight + ":-" + eight + "," + eight + ".", 1);
        due.asks(eight + "," + eight + ",p(" + lists + ").", 0);
        due.consults(eight + "." + eight + ".p(" + lists + ").", 3);
        String fourteen = "f(".repeat(14) + "a" + ")".repeat(14);
        due.consults("p(" + fourteen + "," + fourteen + ").", 1);
        due.consults("p(" + fourteen + ",[" + fourteen + "]).", -1 - 47 - 27);
        PrunedSearch x = new PrunedSearch();
        due.same("fifteen stay open", Due.consulted(x, "p(" + "f(".repeat(14)), -31);
        due.same("but not in the next text", Due.consulted(x, "p(" + fourteen + ")."), 1);
        due.same("a sixteenth", Due.asked(x, "p(" + "f(".repeat(15)), -32);
        due.same("the next text again", Due.asked(x, "p(" + fourteen + ")."), 0);
    }

    private void placeOfTheSixteenth() {
        due.sentence("the fault being the one that opens the sixteenth");
        String fifteen = "p(" + "[".repeat(14);
        String[] ends = {"[", "[]", "[a", "[[[[", "[,", "[a" + "]".repeat(15) + ")."};
        for (String end : ends) {
            both(fifteen + end, 16);
            both(fifteen + "  " + end, 18);
            both(fifteen + "f(" + end, 17);
            both(fifteen + "a," + end, 18);
        }
        both(fifteen + "f (", 18);
        both(fifteen + "(", 16);
        both(fifteen + ",[", 16);
        due.same("one that is too much is wrong first", Due.consulted(new PrunedSearch(), "q(1,2,3,4,5)." + fifteen + "["), -30);
    }
}
