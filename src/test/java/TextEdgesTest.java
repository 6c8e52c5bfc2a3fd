/** THE TEXT, its TOKENS, and promise 2, type: each sentence at its boundary and on both sides. */
final class TextEdgesTest {
    private static final String LETTERS = "abcdefghijklmnopqrstuvwxyzABCDEFGHIJKLMNOPQRSTUVWXYZ0123456789_";
    private static final String SIGNS = "(),.:-![]| ";

    private final Due due = new Due();

    public static void main(String[] args) {
        TextEdgesTest test = new TextEdgesTest();
        test.due.each(
            test::mostCharacters, test::theseAlone, test::longTokens, test::longestWord,
            test::namesAndVariables, test::signs, test::blanks, test::lowestBitsFirst,
            test::upToTheFirstZero, test::eightAtMost, test::answersTrue, test::noneOfTheCharacters,
            test::moreThan240);
    }

    /** A new object with so many blanks. */
    private static PrunedSearch blank(int count) {
        PrunedSearch x = new PrunedSearch();
        Due.typed(x, " ".repeat(count));
        return x;
    }

    /** How many blanks the text has: as a question it ends too early, at its length. */
    private void blanksThere(String what, PrunedSearch x, int count) {
        due.same(what + ": ask()", x.ask(), -1 - count);
    }

    private void mostCharacters() {
        due.sentence("THE TEXT is a row of at most 240 characters");
        for (int count = 238; count <= 240; count++) {
            PrunedSearch x = new PrunedSearch();
            due.holds(count + " characters", Due.typed(x, " ".repeat(count)));
            blanksThere(count + " characters", x, count);
        }
        PrunedSearch y = blank(240);
        due.fails("one more", y.type(' '));
        blanksThere("one more", y, 240);
        due.consults(" ".repeat(238) + "p.", 1);
        due.consults("p." + " ".repeat(237) + "p", -241);
    }

    private void theseAlone() {
        due.sentence("these alone: the letters a to z and A to Z, the digits 0 to 9, _ ( ) , . : - ! [ ] | and blanks");
        for (int c = 1; c < 256; c++) {
            boolean known = (LETTERS + SIGNS).indexOf((char) c) >= 0;
            PrunedSearch x = new PrunedSearch();
            due.same("type(" + c + ")", x.type(c) ? 1 : 0, known ? 1 : 0);
            x.type(Due.row("    ", 0));
            if (!known || c == ' ') {
                blanksThere("after type(" + c + ")", x, known ? 5 : 4);
            }
        }
        for (int k = 0; k < LETTERS.length(); k++) {
            String word = "w" + LETTERS.charAt(k);
            PrunedSearch x = Due.search("p(" + word + ").", "p(X).");
            x.run(1);
            due.same("the letter is kept", Due.text(x, 0), word);
        }
    }

    private void longTokens() {
        due.sentence("Its TOKENS, each as long as it can be");
        due.consults("ab.", 1);
        due.consults("a b.", -3);
        due.asks("p(aX).", 0);
        due.asks("p(Xa).", 1);
        due.asks("p(_a,__,_1).", 3);
        due.asks("p(0a).", 0);
        due.consults("a:-b.", 1);
        due.consults("a::-b.", -2);
        due.consults("abcdefgha.", -1);
        due.consults("abcdefgh a.", -10);
        PrunedSearch x = Due.search("p(aBc_9).", "p(X).");
        x.run(1);
        due.same("one word", Due.text(x, 0), "aBc_9");
    }

    private void longestWord() {
        due.sentence("a WORD, a row of letters, digits and _, of at most 8 characters");
        String[] words = {"abcdefghi", "123456789", "Abcdefghi", "_________", "_bcdefghi", "z_Y_9_x_1", "ABCDEFGHI"};
        for (String word : words) {
            boolean variable = word.charAt(0) == '_' || word.charAt(0) == 'A';
            for (int size = 7; size <= 9; size++) {
                String part = word.substring(0, size);
                due.consults("p(" + part + ").", size <= 8 ? 1 : -3);
                due.consults("p([a|" + part + "]).", size <= 8 ? 1 : -6);
                due.asks("p(" + part + ").", size <= 8 ? variable ? 1 : 0 : -3);
                due.consults(part + ".", size <= 8 && !variable ? 1 : -1);
                due.consults("p:-" + part + ".", size <= 8 && !variable ? 1 : -4);
            }
        }
        PrunedSearch x = Due.with("p(abcdefgh).");
        due.same("all eight count", Due.asked(x, "p(abcdefgi)."), 0);
        due.same("all eight count", x.run(9), 0);
        due.same("all eight count", Due.asked(x, "p(abcdefgh)."), 0);
        due.same("all eight count", x.run(9), 1);
        due.asks("p(Abcdefgh,Abcdefgi,Abcdefgh).", 2);
    }

    private void namesAndVariables() {
        due.sentence("(a NAME when it begins with a small letter or a digit, a VARIABLE when it begins with a capital letter or with _)");
        for (int k = 0; k < LETTERS.length(); k++) {
            char c = LETTERS.charAt(k);
            boolean name = c >= 'a' && c <= 'z' || c >= '0' && c <= '9';
            due.consults(c + "1.", name ? 1 : -1);
            due.asks("p(" + c + "1).", name ? 0 : 1);
            due.asks("p(" + c + "1(a)).", name ? 0 : -5);
        }
    }

    /** A row of signs without anything between them is a row of tokens, each of one sign but for :-. */
    private void signs() {
        due.sentence("the signs :- ( ) , . ! [ ] |");
        due.consults("p([[],[a|b]|[]]):-!,!,!.", 1);
        due.consults("p([[],[a|b]|[]]):-!,!,!..", -25);
        due.consults("p([[],[a|b]|[]]):-!,!!.", -22);
        due.consults("p([[],[a|b]|[]])):-!.", -17);
        due.consults("p([[],[a|b]|[]]):-!:-", -20);
        due.consults("p([[],,", -7);
        due.consults("p([[]],|", -8);
    }

    private void blanks() {
        due.sentence("Blanks stand between tokens or not at all.");
        due.consults("p(X,a):-q([a,b|X],[]),!.", 1);
        due.consults(" p ( X , a ) :- q ( [ a , b | X ] , [ ] ) , ! . ", 1);
        due.consults("  p  (  X  ,  a  )  :-  q  .  ", 1);
        due.consults("p: -q.", -2);
        due.consults("p :- q.", 1);
        due.consults("ab cd.", -4);
        due.consults("p(ab cd).", -6);
        due.consults("p(X Y).", -5);
        due.consults("p(_ _).", -5);
        due.asks(" ! , p ( X ) . ", 1);
    }

    private void lowestBitsFirst() {
        due.sentence("Puts characters behind the text: the lowest 8 bits of row, the next 8, and so on");
        PrunedSearch x = new PrunedSearch();
        due.holds("p(a)", x.type('p' | '(' << 8 | 'a' << 16 | ')' << 24));
        due.holds("the highest 8", x.type(0x20202020202020L | (long) '.' << 56));
        due.same("p(a)       .", x.consult(), 1);
        x.type('p' | '(' << 8 | 'X' << 16 | ')' << 24 | (long) '.' << 32);
        due.same("p(X).", x.ask(), 1);
        due.same("run", x.run(1), 1);
        due.same("X", Due.text(x, 0), "a");
        PrunedSearch y = new PrunedSearch();
        y.type(Due.row(".", 0));
        y.type(Due.row("p", 0));
        due.same("behind the text, not before it", y.consult(), -1);
    }

    private void upToTheFirstZero() {
        due.sentence("up to the first that are 0");
        for (int zero = 0; zero < 8; zero++) {
            long behind = zero == 7 ? 0 : -1L << 8 * zero + 8;
            long row = Due.row("        ", 0) & ~(-1L << 8 * zero) | behind;
            PrunedSearch x = new PrunedSearch();
            due.holds("0 at " + zero, x.type(row));
            blanksThere("0 at " + zero, x, zero);
        }
        long[] empty = {0, 256, Long.MIN_VALUE, 0xffffffffffffff00L};
        for (long row : empty) {
            PrunedSearch x = blank(3);
            due.holds("type(" + row + ")", x.type(row));
            blanksThere("type(" + row + ")", x, 3);
        }
    }

    private void eightAtMost() {
        due.sentence("eight at most");
        for (int count = 7; count <= 8; count++) {
            PrunedSearch x = new PrunedSearch();
            due.holds(count + " at once", x.type(Due.row("        ".substring(0, count), 0)));
            blanksThere(count + " at once", x, count);
        }
        PrunedSearch y = new PrunedSearch();
        due.holds("q(abcde)", y.type(Due.row("q(abcde)", 0)));
        due.same("no ninth", y.consult(), -9);
    }

    private void answersTrue() {
        due.sentence("Answers true");
        PrunedSearch x = new PrunedSearch();
        due.holds("a wrong text is text too", x.type(Due.row("):-::,.|", 0)));
        due.holds("also behind it", x.type(Due.row("p", 0)));
        due.same("it is all there", x.consult(), -1);
    }

    private void noneOfTheCharacters() {
        due.sentence("false, refused, when one of them is none of the characters");
        int[] strange = {1, 9, 10, 13, 31, '"', '#', '%', '&', '\'', '*', '+', '/', ';', '<', '=', '>', '?', '@', '\\', '^', '`', '{', '}', '~', 127, 128, 160, 225, 255};
        for (int c : strange) {
            for (int place = 0; place < 8; place++) {
                long row = Due.row("        ", 0) & ~(255L << 8 * place) | (long) c << 8 * place;
                PrunedSearch x = blank(2);
                due.fails(c + " at " + place, x.type(row));
                due.holds("one blank", x.type(' '));
                blanksThere("after " + c + " at " + place, x, 3);
            }
        }
        due.fails("type(-1)", new PrunedSearch().type(-1));
        due.fails("type(most)", new PrunedSearch().type(Long.MAX_VALUE));
        PrunedSearch y = Due.search("p(a). p(b).", "p(X).");
        y.run(1);
        due.fails("at an answer", y.type(Due.row("p(c)?", 0)));
        due.same("still at the answer", Due.text(y, 0), "a");
        due.same("no text", y.consult(), 0);
    }

    private void moreThan240() {
        due.sentence("or there would be more than 240");
        for (int there = 230; there <= 240; there++) {
            for (int more = 0; more <= 8; more++) {
                boolean fits = there + more <= 240;
                PrunedSearch x = blank(there);
                String what = more + " behind " + there;
                due.same(what, x.type(Due.row("        ".substring(0, more), 0)) ? 1 : 0, fits ? 1 : 0);
                blanksThere(what, x, fits ? there + more : there);
            }
        }
        PrunedSearch y = blank(237);
        due.fails("four too many", y.type(Due.row("  p(a).", 0)));
        due.holds("three fit still", y.type(Due.row(" p.", 0)));
        due.same("nothing of the refused row is there", y.consult(), 1);
        due.holds("then there is room again", Due.typed(y, " ".repeat(240)));
        due.fails("but not for more", y.type('p'));
    }
}
