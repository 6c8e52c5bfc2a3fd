import java.util.ArrayList;
import java.util.HashMap;
import java.util.HashSet;
import java.util.LinkedHashMap;
import java.util.LinkedHashSet;
import java.util.List;
import java.util.Map;
import java.util.Set;

/**
 * The document once more, in the plainest and slowest way, to compare the program with: every
 * choice keeps a whole branch, and faults are found by a general parser over the grammar.
 */
final class PlainSearch {
    interface Term {
    }

    static final class Variable implements Term {
        final String name;

        Variable(String name) {
            this.name = name;
        }
    }

    record Named(String name, List<Term> arguments) implements Term {
    }

    record Token(char kind, int place, String word) {
    }

    record Goal(Term term, int cut) {
    }

    /** terms: the head and the goals of a clause, or the goals of a question. */
    record Part(List<Term> terms, Map<String, Variable> variables, int lone) {
    }

    record Branch(List<Goal> goals, Map<Variable, Term> stands, int length) {
    }

    static final class Choice {
        final Branch branch;
        final List<Integer> candidates;

        Choice(Branch branch, List<Integer> candidates) {
            this.branch = branch;
            this.candidates = candidates;
        }
    }

    static final class Grammar {
        // n NAME, V VARIABLE, : the sign :-; every other capital letter is a rule, what it means behind >.
        static final String[] CLAUSES = {"S>", "S>SC", "C>H.", "C>H:B.", "B>G", "B>B,G", "G>!", "G>H",
            "H>n", "H>n(A)", "A>T", "A>A,T", "T>V", "T>H", "T>[]", "T>[A]", "T>[A|T]"};
        static final String[] QUESTION = {"S>B.", "B>G", "B>B,G", "G>!", "G>H",
            "H>n", "H>n(A)", "A>T", "A>A,T", "T>V", "T>H", "T>[]", "T>[A]", "T>[A|T]"};
    }

    record Item(String rule, int dot, int from) {
        char next() {
            return dot < rule.length() ? rule.charAt(dot) : 0;
        }
    }

    private String text = "";
    private final List<Part> clauses = new ArrayList<>();
    private final Set<String> names = new HashSet<>();
    private Branch branch;
    private List<Choice> choices = new ArrayList<>();
    private Part question;
    private int state = -1;
    private boolean failed;
    private int tries;

    boolean type(long row) {
        StringBuilder more = new StringBuilder();
        for (int k = 0; k < 8 && (row >>> 8 * k & 255) != 0; k++) {
            more.append((char) (row >>> 8 * k & 255));
        }
        boolean known = more.toString().matches("[a-zA-Z0-9_(),.:\\-!\\[\\]| ]*");
        if (!known || text.length() + more.length() > 240) {
            return false;
        }
        text += more;
        return true;
    }

    int consult() {
        noSearch();
        List<Token> tokens = tokens();
        int fault = fault(tokens, Grammar.CLAUSES);
        text = "";
        if (fault >= 0) {
            return -1 - fault;
        }
        List<Part> parts = new ArrayList<>();
        int[] next = {0};
        while (tokens.get(next[0]).kind != 0) {
            parts.add(part(tokens, next));
        }
        boolean much = clauses.size() + parts.size() > 24 || tooManyNames(tokens);
        for (Part part : parts) {
            much |= tooMuch(part, part.terms.size() - 1);
        }
        if (much) {
            return -1000;
        }
        keepNames(tokens);
        clauses.addAll(parts);
        return parts.size();
    }

    int ask() {
        noSearch();
        List<Token> tokens = tokens();
        int fault = fault(tokens, Grammar.QUESTION);
        text = "";
        if (fault >= 0) {
            return -1 - fault;
        }
        Part part = part(tokens, new int[1]);
        if (tooManyNames(tokens) || tooMuch(part, part.terms.size())) {
            return -1000;
        }
        keepNames(tokens);
        question = part;
        List<Goal> goals = new ArrayList<>();
        for (Term term : part.terms) {
            goals.add(new Goal(term, 0));
        }
        branch = new Branch(goals, new HashMap<>(), 0);
        state = 2;
        return part.variables.size();
    }

    int run(int n) {
        if (state < 0 || n < 1 || n > 100) {
            return -1;
        }
        if (state == 1) {
            state = 2;
            failed = true;
            if (choices.isEmpty()) {
                state = 0;
            }
        }
        for (int k = 0; k < n && state == 2; k++) {
            step();
            if (state == 2 && failed && choices.isEmpty()) {
                state = 0;
            }
            if (state == 2 && !failed && branch.goals.isEmpty()) {
                state = 1;
            }
        }
        return state;
    }

    char answer(int v, int i) {
        if (state != 1 || v < 0 || v >= question.variables.size()) {
            return 0;
        }
        Map<Variable, Integer> numbers = new HashMap<>();
        String written = "";
        int k = 0;
        for (Variable variable : question.variables.values()) {
            if (k <= v) {
                written = write(variable, numbers);
            }
            k++;
        }
        return i < 0 || i >= written.length() ? 0 : written.charAt(i);
    }

    int clauses() {
        return clauses.size();
    }

    int tries() {
        return tries;
    }

    int choices() {
        return choices.size();
    }

    int length() {
        return state < 0 ? 0 : branch.length;
    }

    int goals() {
        return state < 0 || failed ? 0 : branch.goals.size();
    }

    void forget() {
        clauses.clear();
        names.clear();
        noSearch();
    }

    private void noSearch() {
        state = -1;
        failed = false;
        tries = 0;
        branch = null;
        question = null;
        choices = new ArrayList<>();
    }

    // ---- reading

    private List<Token> tokens() {
        List<Token> tokens = new ArrayList<>();
        int place = 0;
        while (place < text.length()) {
            String rest = text.substring(place);
            String word = rest.replaceFirst("(?s)^([a-zA-Z0-9_]*).*$", "$1");
            if (word.length() > 8) {
                tokens.add(new Token('?', place, word));
                place += word.length();
            } else if (!word.isEmpty()) {
                char kind = word.matches("[a-z0-9].*") ? 'n' : 'V';
                tokens.add(new Token(kind, place, word));
                place += word.length();
            } else if (rest.startsWith(":-")) {
                tokens.add(new Token(':', place, ":-"));
                place += 2;
            } else {
                char c = rest.charAt(0);
                if (c != ' ') {
                    tokens.add(new Token(c == ':' || c == '-' ? '?' : c, place, ""));
                }
                place++;
            }
        }
        tokens.add(new Token((char) 0, text.length(), ""));
        return tokens;
    }

    /** The place of the fault, or -1: the first token behind which no item of an Earley parser is left. */
    private static int fault(List<Token> tokens, String[] rules) {
        List<Set<Item>> sets = new ArrayList<>();
        Set<Item> now = new LinkedHashSet<>();
        for (String rule : rules) {
            if (rule.charAt(0) == 'S') {
                now.add(new Item(rule, 2, 0));
            }
        }
        int open = 0;
        for (int k = 0; k < tokens.size(); k++) {
            sets.add(now);
            complete(sets, k, rules);
            Token token = tokens.get(k);
            if (token.kind == 0) {
                for (Item item : sets.get(k)) {
                    if (item.rule.charAt(0) == 'S' && item.from == 0 && item.next() == 0) {
                        return -1;
                    }
                }
                return token.place;
            }
            now = new LinkedHashSet<>();
            for (Item item : sets.get(k)) {
                if (item.next() == token.kind) {
                    now.add(new Item(item.rule, item.dot + 1, item.from));
                }
            }
            open += token.kind == '(' || token.kind == '[' ? 1 : 0;
            open -= token.kind == ')' || token.kind == ']' ? 1 : 0;
            if (now.isEmpty() || open > 15) {
                return token.place;
            }
        }
        throw new IllegalStateException("no end");
    }

    private static void complete(List<Set<Item>> sets, int k, String[] rules) {
        Set<Item> set = sets.get(k);
        boolean grown = true;
        while (grown) {
            grown = false;
            for (Item item : new ArrayList<>(set)) {
                char next = item.next();
                if (next == 0) {
                    for (Item waiting : new ArrayList<>(sets.get(item.from))) {
                        if (waiting.next() == item.rule.charAt(0)) {
                            grown |= set.add(new Item(waiting.rule, waiting.dot + 1, waiting.from));
                        }
                    }
                } else if (next >= 'A' && next <= 'Z' && next != 'V') {
                    for (String rule : rules) {
                        if (rule.charAt(0) == next) {
                            grown |= set.add(new Item(rule, 2, k));
                        }
                    }
                }
            }
        }
    }

    /** Reads tokens that are right, up to the next full stop. */
    private static Part part(List<Token> tokens, int[] next) {
        Part part = new Part(new ArrayList<>(), new LinkedHashMap<>(), 0);
        int[] lone = {0};
        while (tokens.get(next[0]).kind != '.') {
            part.terms.add(term(tokens, next, part.variables, lone));
            char kind = tokens.get(next[0]).kind;
            next[0] += kind == ',' || kind == ':' ? 1 : 0;
        }
        next[0]++;
        return new Part(part.terms, part.variables, lone[0]);
    }

    private static Term term(List<Token> tokens, int[] next, Map<String, Variable> variables, int[] lone) {
        Token token = tokens.get(next[0]);
        next[0]++;
        if (token.kind == '!') {
            return new Named("!", List.of());
        }
        if (token.kind == 'V' && token.word.equals("_")) {
            lone[0]++;
            return new Variable("_");
        }
        if (token.kind == 'V') {
            return variables.computeIfAbsent(token.word, Variable::new);
        }
        List<Term> inside = new ArrayList<>();
        Term rest = new Named("[]", List.of());
        if (token.kind == '[' || tokens.get(next[0]).kind == '(') {
            next[0] += token.kind == '[' ? 0 : 1;
            char kind = tokens.get(next[0]).kind;
            while (kind != ')' && kind != ']') {
                Term term = term(tokens, next, variables, lone);
                if (kind == '|') {
                    rest = term;
                } else {
                    inside.add(term);
                }
                kind = tokens.get(next[0]).kind;
                next[0] += kind == ',' || kind == '|' ? 1 : 0;
            }
            next[0]++;
        }
        if (token.kind == 'n') {
            return new Named(token.word, inside);
        }
        for (int k = inside.size() - 1; k >= 0; k--) {
            rest = new Named(".", List.of(inside.get(k), rest));
        }
        return rest;
    }

    private static boolean tooMuch(Part part, int goals) {
        int symbols = 0;
        boolean wide = false;
        for (Term term : part.terms) {
            symbols += size(term);
            wide |= isWide(term);
        }
        return symbols > 40 || wide || goals > 8 || part.variables.size() + part.lone > 8;
    }

    private static int size(Term term) {
        int size = 1;
        if (term instanceof Named named) {
            for (Term argument : named.arguments) {
                size += size(argument);
            }
        }
        return size;
    }

    private static boolean isWide(Term term) {
        boolean wide = false;
        if (term instanceof Named named) {
            wide = named.arguments.size() > 4;
            for (Term argument : named.arguments) {
                wide |= isWide(argument);
            }
        }
        return wide;
    }

    private boolean tooManyNames(List<Token> tokens) {
        Set<String> all = new HashSet<>(names);
        for (Token token : tokens) {
            if (token.kind == 'n') {
                all.add(token.word);
            }
        }
        return all.size() > 32;
    }

    private void keepNames(List<Token> tokens) {
        for (Token token : tokens) {
            if (token.kind == 'n') {
                names.add(token.word);
            }
        }
    }

    // ---- searching

    private void step() {
        if (failed) {
            failed = false;
            int front = choices.size() - 1;
            Choice last = choices.get(front);
            int clause = last.candidates.remove(0);
            if (last.candidates.isEmpty()) {
                choices.remove(front);
            }
            branch = last.branch;
            resolve(clause, front);
            return;
        }
        Goal goal = branch.goals.get(0);
        Named named = (Named) goal.term;
        boolean alone = named.arguments.isEmpty();
        Branch rest = new Branch(branch.goals.subList(1, branch.goals.size()), branch.stands, branch.length);
        if (alone && named.name.equals("!")) {
            choices = new ArrayList<>(choices.subList(0, Math.min(choices.size(), goal.cut)));
            branch = rest;
        } else if (alone && named.name.equals("true")) {
            branch = rest;
        } else if (alone && named.name.equals("fail")) {
            branch = rest;
            failed = true;
        } else {
            List<Integer> candidates = candidates(named);
            if (candidates.isEmpty()) {
                branch = rest;
                failed = true;
            } else if (branch.length == 60) {
                branch = rest;
                state = 3;
            } else {
                int front = choices.size();
                int clause = candidates.remove(0);
                if (!candidates.isEmpty()) {
                    choices.add(new Choice(branch, candidates));
                }
                resolve(clause, front);
            }
        }
    }

    private List<Integer> candidates(Named goal) {
        List<Integer> found = new ArrayList<>();
        for (int k = 0; k < clauses.size(); k++) {
            Named head = (Named) clauses.get(k).terms.get(0);
            boolean fits = head.name.equals(goal.name) && head.arguments.size() == goal.arguments.size();
            if (fits && !head.arguments.isEmpty()) {
                Term one = head.arguments.get(0);
                Term other = stands(goal.arguments.get(0), branch.stands);
                if (one instanceof Named a && other instanceof Named b) {
                    fits = a.name.equals(b.name) && a.arguments.size() == b.arguments.size();
                }
            }
            if (fits) {
                found.add(k);
            }
        }
        return found;
    }

    /** Resolves the first goal of the branch. */
    private void resolve(int clause, int cut) {
        tries++;
        Map<Variable, Variable> fresh = new HashMap<>();
        List<Term> copies = new ArrayList<>();
        for (Term term : clauses.get(clause).terms) {
            copies.add(renamed(term, fresh));
        }
        Map<Variable, Term> stands = new HashMap<>(branch.stands);
        List<Goal> goals = new ArrayList<>();
        boolean equal = makeEqual(branch.goals.get(0).term, copies.get(0), stands);
        if (equal) {
            for (Term term : copies.subList(1, copies.size())) {
                goals.add(new Goal(term, cut));
            }
            goals.addAll(branch.goals.subList(1, branch.goals.size()));
        }
        branch = new Branch(goals, stands, branch.length + 1);
        failed = !equal;
        if (equal) {
            int symbols = 0;
            for (Goal goal : goals) {
                symbols = counted(goal.term, symbols);
            }
            for (Variable variable : question.variables.values()) {
                symbols = counted(variable, symbols);
            }
            if (symbols > 120) {
                state = 4;
            }
        }
    }

    /** The symbols so far and those of the term; past 1000 they are not counted on. */
    private int counted(Term term, int soFar) {
        int symbols = soFar + 1;
        if (stands(term, branch.stands) instanceof Named named) {
            for (Term argument : named.arguments) {
                symbols = symbols > 1000 ? symbols : counted(argument, symbols);
            }
        }
        return symbols;
    }

    private static Term renamed(Term term, Map<Variable, Variable> fresh) {
        if (term instanceof Variable variable) {
            return fresh.computeIfAbsent(variable, v -> new Variable(v.name));
        }
        Named named = (Named) term;
        List<Term> arguments = new ArrayList<>();
        for (Term argument : named.arguments) {
            arguments.add(renamed(argument, fresh));
        }
        return new Named(named.name, arguments);
    }

    private static Term stands(Term term, Map<Variable, Term> stands) {
        Term now = term;
        while (now instanceof Variable && stands.containsKey(now)) {
            now = stands.get(now);
        }
        return now;
    }

    private static boolean makeEqual(Term one, Term other, Map<Variable, Term> stands) {
        Term a = stands(one, stands);
        Term b = stands(other, stands);
        if (a == b) {
            return true;
        }
        if (a instanceof Variable variable) {
            if (contains(b, variable, stands)) {
                return false;
            }
            stands.put(variable, b);
            return true;
        }
        if (b instanceof Variable) {
            return makeEqual(b, a, stands);
        }
        Named x = (Named) a;
        Named y = (Named) b;
        if (!x.name.equals(y.name) || x.arguments.size() != y.arguments.size()) {
            return false;
        }
        for (int k = 0; k < x.arguments.size(); k++) {
            if (!makeEqual(x.arguments.get(k), y.arguments.get(k), stands)) {
                return false;
            }
        }
        return true;
    }

    private static boolean contains(Term whole, Variable variable, Map<Variable, Term> stands) {
        Term term = stands(whole, stands);
        if (term instanceof Named named) {
            for (Term argument : named.arguments) {
                if (contains(argument, variable, stands)) {
                    return true;
                }
            }
        }
        return term == variable;
    }

    // ---- writing

    private String write(Term term, Map<Variable, Integer> numbers) {
        Term now = stands(term, branch.stands);
        if (now instanceof Variable variable) {
            numbers.putIfAbsent(variable, numbers.size());
            return "_" + numbers.get(variable);
        }
        Named named = (Named) now;
        if (!named.name.equals(".")) {
            StringBuilder text = new StringBuilder(named.name);
            for (int k = 0; k < named.arguments.size(); k++) {
                text.append(k == 0 ? "(" : ",").append(write(named.arguments.get(k), numbers));
            }
            return text.append(named.arguments.isEmpty() ? "" : ")").toString();
        }
        StringBuilder text = new StringBuilder("[");
        text.append(write(named.arguments.get(0), numbers));
        Term rest = stands(named.arguments.get(1), branch.stands);
        while (rest instanceof Named pair && pair.name.equals(".")) {
            text.append(",").append(write(pair.arguments.get(0), numbers));
            rest = stands(pair.arguments.get(1), branch.stands);
        }
        if (!(rest instanceof Named end && end.name.equals("[]"))) {
            text.append("|").append(write(rest, numbers));
        }
        return text.append("]").toString();
    }
}
