import java.util.Arrays;

/**
 * Reads clauses and questions as text and searches for answers: goals are taken from the left,
 * clauses in their order, and cuts drop what has not been tried yet.
 */
public final class PrunedSearch {
    public static final int NONE = -1;
    public static final int MUCH = -1000;

    private static final int MOST_TEXT = 240;
    private static final int MOST_LETTERS = 8;
    private static final int MOST_OPEN = 15;
    private static final int MOST_SYMBOLS = 40;
    private static final int MOST_VARIABLES = 8;
    private static final int MOST_GOALS = 8;
    private static final int MOST_ARGUMENTS = 4;
    private static final int MOST_CLAUSES = 24;
    private static final int MOST_NAMES = 32;
    private static final int MOST_LENGTH = 60;
    private static final int MOST_STEPS = 100;
    private static final int LARGEST_BRANCH = 120;

    /** Far above what any loop over waiting terms can need. */
    private static final int MANY_TURNS = 1000000;

    private static final int NOTHING = -1;

    // What run answers is also how the search is held.
    private static final int EMPTY = 0;
    private static final int ANSWER = 1;
    private static final int GOING = 2;
    private static final int DEEP = 3;
    private static final int LARGE = 4;

    // A symbol that is a name: 8 times the name's number, and the number of its arguments.
    private static final int NAME_STEP = 8;
    private static final int FIRST_NAME = 3;
    private static final int EMPTY_LIST = 0;
    private static final int LIST = NAME_STEP + 2;
    private static final int CUT = 2 * NAME_STEP;

    // A symbol that is a variable: _ alone, or VARIABLE v as FIRST_VARIABLE - v.
    private static final int LONE_VARIABLE = -1;
    private static final int FIRST_VARIABLE = -2;

    // Words are held as numbers, 8 bits a character, the first one lowest.
    private static final long LONE_WORD = '_';
    private static final long TRUE_WORD = 't' | 'r' << 8 | 'u' << 16 | 'e' << 24;
    private static final long FAIL_WORD = 'f' | 'a' << 8 | 'i' << 16 | 'l' << 24;

    // The kinds of tokens; every other sign is a kind of its own.
    private static final char NAME = 'a';
    private static final char VARIABLE = 'A';
    private static final char NECK = ':';
    private static final char NO_TOKEN = '?';
    private static final char END = ' ';

    private final Text text;
    private final Names names;
    private final Code program;
    private final ClauseReader reader;
    private final Search search;

    public PrunedSearch() {
        text = new Text();
        names = new Names();
        program = new Code(MOST_CLAUSES * MOST_SYMBOLS, MOST_CLAUSES);
        reader = new ClauseReader(names);
        search = new Search(program, names);
    }

    public boolean type(long row) {
        return text.add(row);
    }

    public int consult() {
        search.end();
        int read = reader.readClauses(text, program.partCount());
        text.clear();
        if (read > 0) {
            program.addParts(reader.code());
        }
        return read;
    }

    public int ask() {
        search.end();
        int read = reader.readQuestion(text);
        text.clear();
        if (read >= 0) {
            search.begin(reader.code(), read);
        }
        return read;
    }

    public int run(int n) {
        if (n < 1 || n > MOST_STEPS) {
            return NONE;
        }
        return search.goOn(n);
    }

    public char answer(int v, int i) {
        return search.letter(v, i);
    }

    public int clauses() {
        return program.partCount();
    }

    public int tries() {
        return search.tryCount();
    }

    public int choices() {
        return search.choiceCount();
    }

    public int length() {
        return search.branchLength();
    }

    public int goals() {
        return search.goalCount();
    }

    public void forget() {
        search.end();
        program.clear();
        names.clear();
    }

    private static boolean isSmall(char c) {
        return c >= 'a' && c <= 'z' || c >= '0' && c <= '9';
    }

    private static boolean isWordLetter(char c) {
        return isSmall(c) || c >= 'A' && c <= 'Z' || c == '_';
    }

    /** The text that was typed and not yet read. */
    private static final class Text {
        private static final String SIGNS = "(),.:-![]| ";

        private final char[] row = new char[MOST_TEXT];
        private int size;

        boolean add(long letters) {
            int more = 0;
            while (more < 8 && letterOf(letters, more) != 0) {
                char c = letterOf(letters, more);
                if (!isWordLetter(c) && SIGNS.indexOf(c) < 0) {
                    return false;
                }
                more++;
            }
            if (size + more > MOST_TEXT) {
                return false;
            }
            for (int k = 0; k < more; k++) {
                row[size + k] = letterOf(letters, k);
            }
            size += more;
            return true;
        }

        private static char letterOf(long letters, int k) {
            return (char) (letters >>> 8 * k & 255);
        }

        void clear() {
            size = 0;
        }

        int size() {
            return size;
        }

        /** A blank stands before the first character, so that no token goes on from there. */
        char at(int place) {
            return place >= 0 && place < size ? row[place] : ' ';
        }
    }

    /** The tokens of a text, with an END behind them. */
    private static final class Tokens {
        private final char[] kinds = new char[MOST_TEXT + 1];
        private final int[] places = new int[MOST_TEXT + 1];
        private final long[] words = new long[MOST_TEXT + 1];
        private int count;

        void scan(Text text) {
            count = 0;
            for (int place = 0; place < text.size(); place++) {
                char before = text.at(place - 1);
                char c = text.at(place);
                if (isWordLetter(c) && isWordLetter(before)) {
                    lengthenWord(c, place);
                } else if (isWordLetter(c)) {
                    put(isSmall(c) ? NAME : VARIABLE, place, c);
                } else if (c == '-' && before == ':') {
                    completeNeck();
                } else if (c == ':' || c == '-') {
                    put(NO_TOKEN, place, 0);
                } else if (c != ' ') {
                    put(c, place, 0);
                }
            }
            put(END, text.size(), 0);
        }

        private void put(char kind, int place, long word) {
            if (count < kinds.length) {
                kinds[count] = kind;
                places[count] = place;
                words[count] = word;
                count++;
            }
        }

        private void lengthenWord(char c, int place) {
            int last = count - 1;
            if (last < 0) {
                return;
            }
            int letters = place - places[last];
            if (letters < MOST_LETTERS) {
                words[last] |= (long) c << 8 * letters;
            } else {
                kinds[last] = NO_TOKEN;
            }
        }

        private void completeNeck() {
            if (count > 0) {
                kinds[count - 1] = NECK;
            }
        }

        char kindAt(int k) {
            return k >= 0 && k < count ? kinds[k] : END;
        }

        int placeAt(int k) {
            return k >= 0 && k < count ? places[k] : 0;
        }

        long wordAt(int k) {
            return k >= 0 && k < count ? words[k] : 0;
        }
    }

    /** The different NAMES: those that are kept, and behind them those of the text being read. */
    private static final class Names {
        private final long[] words = new long[MOST_NAMES];
        private int kept;
        private int count;
        private boolean tooMany;

        /** The symbol of the name, without arguments so far. */
        int symbolOf(long word) {
            int k = 0;
            while (k < count && words[k] != word) {
                k++;
            }
            if (k == MOST_NAMES) {
                tooMany = true;
                k = 0;
            } else if (k == count) {
                words[k] = word;
                count++;
            }
            return (FIRST_NAME + k) * NAME_STEP;
        }

        /** The word of a symbol that is a NAME; 0 for a symbol that is none. */
        long wordOf(int symbol) {
            int k = symbol / NAME_STEP - FIRST_NAME;
            return k >= 0 && k < count ? words[k] : 0;
        }

        boolean areTooMany() {
            return tooMany;
        }

        void keep() {
            kept = count;
        }

        void drop() {
            count = kept;
            tooMany = false;
        }

        void clear() {
            kept = 0;
            drop();
        }
    }

    /**
     * Clauses or a question, a part each: the symbols of its terms, every name in front of its
     * arguments, and with each symbol the size of the term that begins with it.
     */
    private static final class Code {
        private final int[] symbols;
        private final int[] sizes;
        private final int[] ends;
        private int used;
        private int parts;

        Code(int mostSymbols, int mostParts) {
            symbols = new int[mostSymbols];
            sizes = new int[mostSymbols];
            ends = new int[mostParts];
        }

        void clear() {
            used = 0;
            parts = 0;
        }

        /** The place where the symbol was put. */
        int add(int symbol) {
            if (used < symbols.length) {
                symbols[used] = symbol;
                used++;
            }
            return used - 1;
        }

        void setArguments(int place, int arguments) {
            if (place >= 0 && place < used) {
                symbols[place] += arguments;
            }
        }

        void endPart() {
            if (parts < ends.length) {
                ends[parts] = used;
                measure(startOf(parts));
            }
            parts++;
        }

        private void measure(int from) {
            for (int k = used - 1; k >= from; k--) {
                int next = k + 1;
                int arguments = argumentsOf(symbols[k]);
                for (int j = 0; j < arguments && next < used; j++) {
                    next += sizes[next];
                }
                sizes[k] = next - k;
            }
        }

        void addParts(Code more) {
            for (int part = 0; part < more.partCount(); part++) {
                for (int k = more.startOf(part); k < more.endOf(part); k++) {
                    add(more.symbolAt(k));
                }
                endPart();
            }
        }

        int partCount() {
            return parts;
        }

        int startOf(int part) {
            return part < 1 || part > ends.length ? 0 : ends[part - 1];
        }

        int endOf(int part) {
            return part < 0 || part >= ends.length ? 0 : ends[part];
        }

        int symbolAt(int place) {
            return place >= 0 && place < used ? symbols[place] : EMPTY_LIST;
        }

        int sizeAt(int place) {
            return place >= 0 && place < used ? sizes[place] : 1;
        }

        int symbolsSince(int part) {
            return used - startOf(part);
        }
    }

    private static int argumentsOf(int symbol) {
        return symbol < 0 ? 0 : symbol % NAME_STEP;
    }

    /** Reads a text as clauses or as a question; every read method leaves next at the fault. */
    private static final class ClauseReader {
        private final Names names;
        private final Tokens tokens = new Tokens();
        private final Code code = new Code(MOST_TEXT, MOST_CLAUSES);
        private final long[] variables = new long[MOST_VARIABLES];
        private int variableCount;
        private int loneCount;
        private int goalsRead;
        private int open;
        private int next;
        private boolean much;

        ClauseReader(Names names) {
            this.names = names;
        }

        Code code() {
            return code;
        }

        /** How many clauses there are, or what else consult is to answer. */
        int readClauses(Text text, int clausesThere) {
            start(text);
            boolean right = true;
            for (int k = 0; k < MOST_TEXT && right && !isAt(END); k++) {
                right = readClause();
            }
            much |= clausesThere + code.partCount() > MOST_CLAUSES;
            return outcome(right, code.partCount());
        }

        /** How many different VARIABLES there are, or what else ask is to answer. */
        int readQuestion(Text text) {
            start(text);
            boolean right = readGoals() && endPart() && isAt(END);
            return outcome(right, variableCount);
        }

        private void start(Text text) {
            tokens.scan(text);
            code.clear();
            next = 0;
            open = 0;
            much = false;
            startPart();
        }

        private int outcome(boolean right, int count) {
            much |= names.areTooMany();
            if (right && !much) {
                names.keep();
                return count;
            }
            names.drop();
            return right ? MUCH : -1 - tokens.placeAt(next);
        }

        private void startPart() {
            variableCount = 0;
            loneCount = 0;
            goalsRead = 0;
        }

        private boolean endPart() {
            if (!accept('.')) {
                return false;
            }
            much |= code.symbolsSince(code.partCount()) > MOST_SYMBOLS;
            much |= goalsRead > MOST_GOALS;
            code.endPart();
            return true;
        }

        private boolean readClause() {
            startPart();
            if (!isAt(NAME) || !readTerm()) {
                return false;
            }
            if (accept(NECK) && !readGoals()) {
                return false;
            }
            return endPart();
        }

        private boolean readGoals() {
            boolean more = true;
            for (int k = 0; k < MOST_TEXT && more; k++) {
                goalsRead++;
                if (accept('!')) {
                    code.add(CUT);
                } else if (!isAt(NAME) || !readTerm()) {
                    return false;
                }
                more = accept(',');
            }
            return true;
        }

        private boolean readTerm() {
            if (isAt(VARIABLE)) {
                code.add(variableSymbol(tokens.wordAt(next)));
                next++;
                return true;
            }
            if (isAt(NAME)) {
                int place = code.add(names.symbolOf(tokens.wordAt(next)));
                next++;
                return !isAt('(') || readArguments(place);
            }
            return isAt('[') && readList();
        }

        private boolean readArguments(int place) {
            if (!enter()) {
                return false;
            }
            int arguments = 0;
            boolean more = true;
            for (int k = 0; k < MOST_TEXT && more; k++) {
                if (!readTerm()) {
                    return false;
                }
                arguments++;
                more = accept(',');
            }
            much |= arguments > MOST_ARGUMENTS;
            code.setArguments(place, Math.min(arguments, MOST_ARGUMENTS));
            open--;
            return accept(')');
        }

        private boolean readList() {
            if (!enter()) {
                return false;
            }
            boolean more = !isAt(']');
            for (int k = 0; k < MOST_TEXT && more; k++) {
                code.add(LIST);
                if (!readTerm()) {
                    return false;
                }
                more = accept(',');
            }
            if (!accept('|')) {
                code.add(EMPTY_LIST);
            } else if (!readTerm()) {
                return false;
            }
            open--;
            return accept(']');
        }

        private boolean enter() {
            if (open >= MOST_OPEN) {
                return false;
            }
            open++;
            next++;
            return true;
        }

        private int variableSymbol(long word) {
            if (word == LONE_WORD) {
                loneCount++;
                much |= variableCount + loneCount > MOST_VARIABLES;
                return LONE_VARIABLE;
            }
            int v = 0;
            while (v < variableCount && variables[v] != word) {
                v++;
            }
            if (v == variableCount) {
                much |= v + 1 + loneCount > MOST_VARIABLES;
                if (v < MOST_VARIABLES) {
                    variables[v] = word;
                    variableCount++;
                }
            }
            return FIRST_VARIABLE - v;
        }

        private boolean isAt(char kind) {
            return tokens.kindAt(next) == kind;
        }

        private boolean accept(char kind) {
            if (tokens.kindAt(next) != kind) {
                return false;
            }
            next++;
            return true;
        }
    }

    /**
     * The terms of a branch, in cells: a name's arguments begin in the cell behind it, each one
     * behind the one before it. A cell may stand for another one: a variable's for its term, and
     * a name's for an equal term, so that equal terms are compared only once.
     */
    private static final class Terms {
        private static final int MOST_CELLS = (MOST_LENGTH + 1) * MOST_SYMBOLS;
        private static final int MOST_WAITING = 512;

        private final int[] symbols = new int[MOST_CELLS];
        private final int[] sizes = new int[MOST_CELLS];
        private final int[] stands = new int[MOST_CELLS];
        private final int[] marks = new int[MOST_CELLS];
        private final int[] changed = new int[MOST_CELLS];
        private final int[] waiting = new int[MOST_WAITING];
        private final int[] variableCells = new int[MOST_VARIABLES];
        private int used;
        private int changes;
        private int waitingCount;
        private int lastMark;

        int cellCount() {
            return used;
        }

        int changeCount() {
            return changes;
        }

        /** Back to what the branch had when there were so many cells and changes. */
        void goBack(int cells, int changesThen) {
            while (changes > changesThen && changes > 0) {
                changes--;
                stands[changed[changes]] = NOTHING;
            }
            used = cells;
        }

        /** Copies a part of the code with new variables; answers its first cell. */
        int copy(Code code, int part) {
            Arrays.fill(variableCells, NOTHING);
            int first = used;
            int end = code.endOf(part);
            for (int k = code.startOf(part); k < end && used < MOST_CELLS; k++) {
                int symbol = code.symbolAt(k);
                symbols[used] = symbol < 0 ? LONE_VARIABLE : symbol;
                sizes[used] = code.sizeAt(k);
                stands[used] = symbol <= FIRST_VARIABLE ? sameVariable(FIRST_VARIABLE - symbol) : NOTHING;
                used++;
            }
            return first;
        }

        /** The cell where variable v stood first; NOTHING when that is the cell being filled. */
        private int sameVariable(int v) {
            if (v >= MOST_VARIABLES) {
                return NOTHING;
            }
            int cell = variableCells[v];
            if (cell == NOTHING) {
                variableCells[v] = used;
            }
            return cell;
        }

        /** The cell of variable v in the part that was copied last. */
        int variableCell(int v) {
            return v >= 0 && v < MOST_VARIABLES && variableCells[v] != NOTHING ? variableCells[v] : 0;
        }

        int symbolAt(int cell) {
            return cell >= 0 && cell < used ? symbols[cell] : EMPTY_LIST;
        }

        int sizeAt(int cell) {
            return cell >= 0 && cell < used ? sizes[cell] : 1;
        }

        int argument(int cell, int k) {
            int place = cell + 1;
            for (int j = 0; j < k; j++) {
                place += sizeAt(place);
            }
            return place;
        }

        /** The cell of what stands for the term, by all that is known now. */
        int standing(int cell) {
            int last = cell;
            for (int k = 0; k < MOST_CELLS && nextStanding(last) != NOTHING; k++) {
                last = nextStanding(last);
            }
            return last;
        }

        private int nextStanding(int cell) {
            return cell >= 0 && cell < used ? stands[cell] : NOTHING;
        }

        /** Makes two terms equal, but for circles that this may leave. */
        boolean join(int one, int other) {
            waitingCount = 0;
            push(one);
            push(other);
            for (int turn = 0; turn < MANY_TURNS && waitingCount > 1; turn++) {
                int a = standing(pop());
                int b = standing(pop());
                if (a == b) {
                    continue;
                }
                if (symbolAt(a) == LONE_VARIABLE) {
                    letStand(a, b);
                } else if (symbolAt(b) == LONE_VARIABLE) {
                    letStand(b, a);
                } else if (symbolAt(a) == symbolAt(b)) {
                    letStand(a, b);
                    pushPairs(a, b);
                } else {
                    return false;
                }
            }
            return true;
        }

        private void letStand(int cell, int other) {
            if (changes < MOST_CELLS && cell >= 0 && cell < used) {
                stands[cell] = other;
                changed[changes] = cell;
                changes++;
            }
        }

        private void pushPairs(int a, int b) {
            int arguments = argumentsOf(symbolAt(a));
            int inA = a + 1;
            int inB = b + 1;
            for (int k = 0; k < arguments; k++) {
                push(inA);
                push(inB);
                inA += sizeAt(inA);
                inB += sizeAt(inB);
            }
        }

        /** Whether the term contains itself, or a term in it does. */
        boolean isCircular(int root) {
            int opened = lastMark + 1;
            int closed = lastMark + 2;
            lastMark = closed;
            waitingCount = 0;
            push(root);
            for (int turn = 0; turn < MANY_TURNS && waitingCount > 0; turn++) {
                int item = pop();
                if (item < 0) {
                    mark(-1 - item, closed);
                    continue;
                }
                int cell = standing(item);
                if (markAt(cell) == opened) {
                    return true;
                }
                if (markAt(cell) != closed) {
                    mark(cell, opened);
                    push(-1 - cell);
                    pushArguments(cell);
                }
            }
            return false;
        }

        private void mark(int cell, int mark) {
            if (cell >= 0 && cell < used) {
                marks[cell] = mark;
            }
        }

        private int markAt(int cell) {
            return cell >= 0 && cell < used ? marks[cell] : 0;
        }

        /** The symbols of a term; more than most as soon as they are more. */
        int countSymbols(int root, int most) {
            int count = 0;
            waitingCount = 0;
            push(root);
            while (count <= most && waitingCount > 0) {
                pushArguments(standing(pop()));
                count++;
            }
            return count;
        }

        private void pushArguments(int cell) {
            int arguments = argumentsOf(symbolAt(cell));
            int place = cell + 1;
            for (int k = 0; k < arguments; k++) {
                push(place);
                place += sizeAt(place);
            }
        }

        private void push(int item) {
            if (waitingCount < MOST_WAITING) {
                waiting[waitingCount] = item;
                waitingCount++;
            }
        }

        private int pop() {
            if (waitingCount > 0) {
                waitingCount--;
            }
            return waiting[waitingCount];
        }
    }

    /** Rows of goals that share their ends: each goal knows the one behind it. */
    private static final class Goals {
        private static final int MOST_HELD = (MOST_LENGTH + 1) * MOST_GOALS;

        private final int[] terms = new int[MOST_HELD];
        private final int[] cuts = new int[MOST_HELD];
        private final int[] behind = new int[MOST_HELD];
        private int used;
        private int first = NOTHING;

        int first() {
            return first;
        }

        int heldCount() {
            return used;
        }

        void goBack(int firstThen, int usedThen) {
            first = firstThen;
            used = usedThen;
        }

        void takeFirst() {
            first = after(first);
        }

        /** Puts the terms in the cells from .. end - 1 before the goals that are left. */
        void putBefore(Terms cells, int from, int end, int cut) {
            int rest = first;
            int last = NOTHING;
            int cell = from;
            for (int k = 0; k < MOST_GOALS && cell < end && used < MOST_HELD; k++) {
                terms[used] = cell;
                cuts[used] = cut;
                behind[used] = rest;
                if (last == NOTHING) {
                    first = used;
                } else {
                    behind[last] = used;
                }
                last = used;
                used++;
                cell += cells.sizeAt(cell);
            }
        }

        int termOf(int goal) {
            return goal >= 0 && goal < used ? terms[goal] : 0;
        }

        int cutOf(int goal) {
            return goal >= 0 && goal < used ? cuts[goal] : 0;
        }

        int after(int goal) {
            return goal >= 0 && goal < used ? behind[goal] : NOTHING;
        }

        int count() {
            int count = 0;
            int goal = first;
            while (goal != NOTHING && count < MOST_HELD) {
                count++;
                goal = after(goal);
            }
            return count;
        }
    }

    /** The choices: the branch that each one goes back to, and its clauses, a bit for each. */
    private static final class Choices {
        private final int[] firstGoals = new int[MOST_LENGTH];
        private final int[] heldGoals = new int[MOST_LENGTH];
        private final int[] cells = new int[MOST_LENGTH];
        private final int[] changes = new int[MOST_LENGTH];
        private final int[] lengths = new int[MOST_LENGTH];
        private final int[] candidates = new int[MOST_LENGTH];
        private int count;

        int count() {
            return count;
        }

        void put(int firstGoal, int heldCount, Terms terms, int branchLength, int clauseBits) {
            if (count < MOST_LENGTH) {
                firstGoals[count] = firstGoal;
                heldGoals[count] = heldCount;
                cells[count] = terms.cellCount();
                changes[count] = terms.changeCount();
                lengths[count] = branchLength;
                candidates[count] = clauseBits;
                count++;
            }
        }

        /** Drops the choices behind the first most ones. */
        void keepFirst(int most) {
            count = Math.min(count, Math.max(most, 0));
        }

        /** Gives goals and terms what they had at the last choice; answers the length there. */
        int goBack(Goals goals, Terms terms) {
            int last = Math.max(count - 1, 0);
            goals.goBack(firstGoals[last], heldGoals[last]);
            terms.goBack(cells[last], changes[last]);
            return lengths[last];
        }

        /** Takes the first clause out of the last choice, which is dropped with its last one. */
        int takeCandidate() {
            int last = Math.max(count - 1, 0);
            int clause = firstOf(candidates[last]);
            candidates[last] = withoutFirst(candidates[last]);
            if (candidates[last] == 0) {
                count = last;
            }
            return clause;
        }

        static int firstOf(int clauseBits) {
            int clause = 0;
            while (clause < MOST_CLAUSES - 1 && (clauseBits >> clause & 1) == 0) {
                clause++;
            }
            return clause;
        }

        static int withoutFirst(int clauseBits) {
            return clauseBits & clauseBits - 1;
        }
    }

    /** A search, or none. */
    private static final class Search {
        private final Code program;
        private final Names names;
        private final Terms terms = new Terms();
        private final Goals branch = new Goals();
        private final Choices open = new Choices();
        private final TermWriter writer;
        private final int[] asked = new int[MOST_VARIABLES];
        private int askedCount;
        private int state = NONE;
        private boolean failed;
        private int depth;
        private int tried;
        private int taken;
        private int takenCut;

        Search(Code program, Names names) {
            this.program = program;
            this.names = names;
            writer = new TermWriter(terms, names);
        }

        void end() {
            state = NONE;
            failed = false;
            depth = 0;
            tried = 0;
            askedCount = 0;
            open.keepFirst(0);
            branch.goBack(NOTHING, 0);
            terms.goBack(0, 0);
            writer.clear();
        }

        /** Begins a search where there is none. */
        void begin(Code question, int variables) {
            terms.copy(question, 0);
            branch.putBefore(terms, 0, terms.cellCount(), 0);
            askedCount = Math.min(variables, MOST_VARIABLES);
            for (int v = 0; v < askedCount; v++) {
                asked[v] = terms.variableCell(v);
            }
            state = GOING;
        }

        int goOn(int most) {
            if (state == ANSWER) {
                // From an answer the search goes on as from a branch that failed.
                failed = true;
                state = open.count() == 0 ? EMPTY : GOING;
                writer.clear();
            }
            for (int k = 0; k < most && state == GOING; k++) {
                step();
            }
            return state;
        }

        private void step() {
            int clause = failed ? takeChoice() : takeGoal();
            if (clause != NOTHING) {
                resolve(clause);
            }
            if (state != GOING) {
                return;
            }
            if (failed && open.count() == 0) {
                state = EMPTY;
            } else if (!failed && branch.first() == NOTHING) {
                state = ANSWER;
            }
        }

        /** The clause to resolve with, or NOTHING. */
        private int takeChoice() {
            failed = false;
            depth = open.goBack(branch, terms);
            taken = branch.termOf(branch.first());
            branch.takeFirst();
            takenCut = open.count() - 1;
            return open.takeCandidate();
        }

        /** The clause to resolve with, or NOTHING. */
        private int takeGoal() {
            int goal = branch.first();
            taken = branch.termOf(goal);
            branch.takeFirst();
            int symbol = terms.symbolAt(taken);
            if (symbol == CUT) {
                open.keepFirst(branch.cutOf(goal));
                return NOTHING;
            }
            boolean alone = argumentsOf(symbol) == 0;
            if (alone && names.wordOf(symbol) == TRUE_WORD) {
                return NOTHING;
            }
            int clauseBits = alone && names.wordOf(symbol) == FAIL_WORD ? 0 : candidates(symbol);
            if (clauseBits == 0) {
                failed = true;
                return NOTHING;
            }
            if (depth == MOST_LENGTH) {
                state = DEEP;
                return NOTHING;
            }
            return choose(goal, clauseBits);
        }

        private int choose(int goal, int clauseBits) {
            takenCut = open.count();
            int others = Choices.withoutFirst(clauseBits);
            if (others != 0) {
                open.put(goal, branch.heldCount(), terms, depth, others);
            }
            return Choices.firstOf(clauseBits);
        }

        /** The clauses that may fit the goal that was taken, a bit for each. */
        private int candidates(int symbol) {
            boolean alone = argumentsOf(symbol) == 0;
            int first = alone ? LONE_VARIABLE : terms.symbolAt(terms.standing(taken + 1));
            int clauseBits = 0;
            for (int clause = 0; clause < program.partCount(); clause++) {
                int head = program.startOf(clause);
                int headFirst = alone ? LONE_VARIABLE : program.symbolAt(head + 1);
                boolean mayFit = first < 0 || headFirst < 0 || first == headFirst;
                if (program.symbolAt(head) == symbol && mayFit) {
                    clauseBits |= 1 << clause;
                }
            }
            return clauseBits;
        }

        private void resolve(int clause) {
            depth++;
            tried++;
            int head = terms.copy(program, clause);
            if (!terms.join(taken, head) || terms.isCircular(taken)) {
                failed = true;
                return;
            }
            branch.putBefore(terms, head + terms.sizeAt(head), terms.cellCount(), takenCut);
            if (isLarge()) {
                state = LARGE;
            }
        }

        private boolean isLarge() {
            int left = LARGEST_BRANCH;
            int goal = branch.first();
            // Every goal has a symbol at least, so that more goals than that are too many.
            for (int k = 0; k <= LARGEST_BRANCH && left >= 0 && goal != NOTHING; k++) {
                left -= terms.countSymbols(branch.termOf(goal), left);
                goal = branch.after(goal);
            }
            for (int v = 0; v < askedCount && left >= 0; v++) {
                left -= terms.countSymbols(asked[v], left);
            }
            return left < 0;
        }

        char letter(int v, int i) {
            if (state != ANSWER || v < 0 || v >= askedCount) {
                return 0;
            }
            if (!writer.isDone()) {
                writer.writeAll(asked, askedCount);
            }
            return writer.letter(v, i);
        }

        int tryCount() {
            return tried;
        }

        int choiceCount() {
            return open.count();
        }

        int branchLength() {
            return depth;
        }

        int goalCount() {
            return failed ? 0 : branch.count();
        }
    }

    /** Writes the texts of an answer, one behind the other. */
    private static final class TermWriter {
        // No symbol takes more: a word, a sign before it, a sign that closes.
        private static final int MOST_WRITTEN = LARGEST_BRANCH * (MOST_LETTERS + 2);
        private static final int MOST_WAITING = 512;

        // What waits: 4 times a cell or a sign, and what it is.
        private static final int KINDS = 4;
        private static final int TERM = 0;
        private static final int REST_OF_LIST = 1;
        private static final int SIGN = 2;

        private final Terms terms;
        private final Names names;
        private final char[] written = new char[MOST_WRITTEN];
        private final int[] ends = new int[MOST_VARIABLES];
        private final int[] free = new int[LARGEST_BRANCH];
        private final int[] waiting = new int[MOST_WAITING];
        private int size;
        private int freeCount;
        private int waitingCount;
        private boolean done;

        TermWriter(Terms terms, Names names) {
            this.terms = terms;
            this.names = names;
        }

        void clear() {
            size = 0;
            freeCount = 0;
            done = false;
        }

        boolean isDone() {
            return done;
        }

        char letter(int v, int i) {
            if (v < 0 || v >= MOST_VARIABLES) {
                return 0;
            }
            int start = v == 0 ? 0 : ends[v - 1];
            return i >= 0 && i < ends[v] - start ? written[start + i] : 0;
        }

        void writeAll(int[] cells, int count) {
            clear();
            for (int v = 0; v < count && v < MOST_VARIABLES; v++) {
                write(cells[v]);
                ends[v] = size;
            }
            done = true;
        }

        private void write(int root) {
            waitingCount = 0;
            push(TERM, root);
            for (int turn = 0; turn < MANY_TURNS && waitingCount > 0; turn++) {
                waitingCount--;
                int item = waiting[waitingCount];
                int what = item / KINDS;
                if (item % KINDS == SIGN) {
                    put((char) what);
                } else if (item % KINDS == TERM) {
                    writeTerm(terms.standing(what));
                } else {
                    writeRest(terms.standing(what));
                }
            }
        }

        private void writeTerm(int cell) {
            int symbol = terms.symbolAt(cell);
            if (symbol < 0) {
                writeVariable(cell);
            } else if (symbol == EMPTY_LIST) {
                put('[');
                put(']');
            } else if (symbol == LIST) {
                put('[');
                pushList(cell);
            } else {
                writeWord(names.wordOf(symbol));
                pushArguments(cell, argumentsOf(symbol));
            }
        }

        /** What is behind an element of a list, up to the sign that closes the list. */
        private void writeRest(int cell) {
            int symbol = terms.symbolAt(cell);
            if (symbol == EMPTY_LIST) {
                put(']');
            } else if (symbol == LIST) {
                put(',');
                pushList(cell);
            } else {
                put('|');
                push(SIGN, ']');
                push(TERM, cell);
            }
        }

        private void pushList(int cell) {
            push(REST_OF_LIST, terms.argument(cell, 1));
            push(TERM, terms.argument(cell, 0));
        }

        private void pushArguments(int cell, int arguments) {
            if (arguments > 0) {
                push(SIGN, ')');
            }
            for (int k = arguments - 1; k >= 0; k--) {
                push(TERM, terms.argument(cell, k));
                push(SIGN, k == 0 ? '(' : ',');
            }
        }

        private void writeWord(long word) {
            for (int k = 0; k < MOST_LETTERS; k++) {
                char c = (char) (word >>> 8 * k & 255);
                if (c != 0) {
                    put(c);
                }
            }
        }

        /** Two digits do: in 120 symbols, names of 4 arguments leave room for 92 variables at most. */
        private void writeVariable(int cell) {
            int number = 0;
            while (number < freeCount && free[number] != cell) {
                number++;
            }
            if (number == freeCount && freeCount < LARGEST_BRANCH) {
                free[freeCount] = cell;
                freeCount++;
            }
            put('_');
            if (number >= 10) {
                put((char) ('0' + number / 10));
            }
            put((char) ('0' + number % 10));
        }

        private void put(char c) {
            if (size < MOST_WRITTEN) {
                written[size] = c;
                size++;
            }
        }

        private void push(int kind, int what) {
            if (waitingCount < MOST_WAITING) {
                waiting[waitingCount] = what * KINDS + kind;
                waitingCount++;
            }
        }
    }
}
