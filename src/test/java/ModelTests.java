import java.util.ArrayList;
import java.util.Comparator;
import java.util.HashMap;
import java.util.HashSet;
import java.util.LinkedHashMap;
import java.util.List;
import java.util.Map;
import java.util.Random;
import java.util.Set;
import java.util.TreeMap;
import java.util.TreeSet;
import java.util.regex.Matcher;
import java.util.regex.Pattern;

/**
 * Random texts, good and spoilt, against a plain model of the document: the model cuts the whole
 * tape first, parses by descent, and tries all facts for all atoms at every stage.
 */
public final class ModelTests {
    private static final int ROUNDS = 6000;
    // Behind so many calls no text begins, and no more cells of rows are looked at.
    private static final int LAST_TEXT = 400;
    private static final int LAST_CELL = 470;
    private static final int SEEN_ROWS = 40;
    // Which of both tokens cannot stand in "not a = b", the document leaves open.
    private static final Pattern LEFT_OPEN = Pattern.compile("not\\s*(%.*\n\\s*)*[a-z]\\w*\\s*(%.*\n\\s*)*[=!<>]");
    private static int wrong = 0;

    public static void main(String[] args) {
        Bench.watch();
        int rounds = args.length > 0 ? Integer.parseInt(args[0]) : ROUNDS;
        long seed = args.length > 1 ? Long.parseLong(args[1]) : 1;
        int loaded = 0;
        Map<Integer, Integer> codes = new TreeMap<>();
        for (int round = 0; round < rounds && wrong < 20; round++) {
            Random random = new Random(seed * 1000003 + round);
            Run run = new Run(random, codes);
            run.play();
            loaded += run.loads;
        }
        System.out.println("ModelTests: " + rounds + " rounds, " + loaded + " programs loaded, "
            + Run.allFacts + " facts up to stage " + Run.deepest + ", " + Run.allRows
            + " rows, answers by fault code " + codes);
        if (wrong > 0) {
            System.out.println(wrong + " wrong");
        }
        System.exit(wrong == 0 && loaded * 4 > rounds ? 0 : 1);
    }

    private static void due(String what, long got, long want) {
        if (got != want) {
            wrong++;
            System.out.println(what + "\n  answered " + got + ", due is " + want);
        }
    }

    // ---------------------------------------------------------------- one object, several texts

    private static final class Run {
        final Random random;
        final Map<Integer, Integer> codes;
        private final StrataBase base = new StrataBase();
        private int calls = 0;
        final Writer writer;
        Model model = new Model();
        boolean ran = false;
        int rowCount = 0;
        int loads = 0;
        static int deepest = 0;
        static long allFacts = 0;
        static long allRows = 0;
        String told = "";

        Run(Random random, Map<Integer, Integer> codes) {
            this.random = random;
            this.codes = codes;
            this.writer = new Writer(random);
        }

        /** The object, whose calls are counted: nothing is promised about those behind the last. */
        StrataBase next() {
            calls++;
            return base;
        }

        void play() {
            int programs = 1 + random.nextInt(2);
            for (int i = 0; i < programs && calls < LAST_TEXT / 2; i++) {
                loadOne();
                if (random.nextInt(10) > 0) {
                    runIt();
                }
                int questions = random.nextInt(6);
                for (int k = 0; k < questions && calls < LAST_TEXT; k++) {
                    switch (random.nextInt(4)) {
                        case 0:
                            stageOne();
                            break;
                        case 1:
                            stratumOne();
                            break;
                        default:
                            askOne();
                    }
                }
                counts();
            }
            due(told + "\n  calls within the promised ones", calls <= Bench.PROMISED_CALLS ? 1 : 0, 1);
        }

        void loadOne() {
            String text = spoil(writer.program(), 3);
            told = told + "\nload " + text;
            Model fresh = new Model();
            Fault fault = fresh.parse(text);
            put(text);
            int got = next().load();
            check("load", got, fault == null ? -1 : fault.place, fault);
            if (fault == null) {
                model = fresh;
                ran = false;
                rowCount = 0;
                loads++;
            }
        }

        void runIt() {
            model.derive();
            told = told + "\nrun";
            due(told, next().run(), model.stages.size());
            due(told + " again", next().run(), model.stages.size());
            ran = true;
        }

        void askOne() {
            String text = spoil(writer.question(), 6);
            told = told + "\nask " + text;
            put(text);
            if (!ran) {
                askThrows(text, 1);
                return;
            }
            Question question = new Question(model);
            Fault fault = question.parse(text);
            if (fault == null) {
                TreeSet<List<Object>> rows = question.rows();
                if (rows.size() > 5000) {
                    askThrows(text, 2);
                    return;
                }
                check("ask", next().ask(), rows.size(), null);
                rowCount = rows.size();
                allRows += rowCount;
                due(told + " columns", next().columns(), question.columns.size());
                compareRows(rows, question.columns.size());
            } else {
                check("ask", next().ask(), -1 - fault.place, fault);
            }
            due(told + " rows", next().count(5), rowCount);
        }

        void askThrows(String text, int which) {
            int fault = next().fault();
            int thrown = 0;
            try {
                next().ask();
            } catch (IllegalStateException e) {
                thrown = 1;
            } catch (UnsupportedOperationException e) {
                thrown = 2;
            }
            due(told + " throws", thrown, which);
            due(told + " leaves the fault", next().fault(), fault);
            due(told + " leaves the rows", next().count(5), rowCount);
            next().end(text.length());
            next().end(0);
        }

        void compareRows(TreeSet<List<Object>> rows, int width) {
            int row = 0;
            int stride = 1 + rows.size() / SEEN_ROWS;
            for (List<Object> wanted : rows) {
                boolean seen = row % stride == 0 && calls < LAST_CELL;
                for (int column = 0; seen && column < width; column++) {
                    Object value = wanted.get(column);
                    String where = told + "\n  row " + row + " column " + column;
                    boolean number = value instanceof Integer;
                    due(where, next().isNumber(row, column) ? 1 : 0, number ? 1 : 0);
                    if (number) {
                        due(where, next().number(row, column), (Integer) value);
                    } else {
                        String name = (String) value;
                        int length = next().number(row, column);
                        due(where, length, name.length());
                        for (int k = 0; k < Math.min(name.length(), length); k++) {
                            due(where, next().letter(row, column, k), name.charAt(k));
                        }
                    }
                }
                row++;
            }
        }

        void stageOne() {
            if (!ran) {
                return;
            }
            String text = spoil(writer.fact(model), 8);
            told = told + "\nstage " + text;
            Atom[] atom = new Atom[1];
            Fault fault = new Parser(text, model).fact(atom);
            put(text);
            if (fault != null) {
                check("stage", next().stage(), -2 - fault.place, fault);
            } else {
                Integer stage = model.stages.get(atom[0].toString());
                check("stage", next().stage(), stage == null ? -1 : stage, null);
            }
        }

        void stratumOne() {
            String text = spoil(writer.predicateName(), 8);
            told = told + "\nstratum " + text;
            String[] name = new String[1];
            Fault fault = new Parser(text, model).word(name);
            put(text);
            if (fault != null) {
                check("stratum", next().stratum(), -2 - fault.place, fault);
            } else {
                Integer stratum = model.strata.get(name[0]);
                check("stratum", next().stratum(), stratum == null ? -1 : stratum, null);
            }
        }

        void check(String call, int got, int want, Fault fault) {
            int code = fault == null ? 0 : fault.code;
            codes.merge(code, 1, Integer::sum);
            due(told, got, want);
            due(told + "\n  fault", next().fault(), code);
            boolean empty = false;
            try {
                next().end(1);
            } catch (IllegalArgumentException e) {
                empty = true;
            }
            due(told + "\n  tape empty", empty ? 1 : 0, 1);
        }

        void counts() {
            due(told + "\n  clauses", next().count(0), model.clauses.size());
            due(told + "\n  predicates", next().count(1), model.sizes.size());
            due(told + "\n  constants", next().count(2), model.constants.size());
            int strata = 0;
            for (int stratum : model.strata.values()) {
                strata = Math.max(strata, stratum + 1);
            }
            due(told + "\n  strata", next().count(3), strata);
            int highest = 0;
            for (int stage : model.stages.values()) {
                highest = Math.max(highest, stage);
            }
            deepest = Math.max(deepest, highest);
            allFacts += model.stages.size();
            due(told + "\n  facts", next().count(4), ran ? model.stages.size() : -1);
            due(told + "\n  highest stage", next().count(6), ran ? highest : -1);
        }

        String spoil(String text, int oneOf) {
            if (random.nextInt(oneOf) > 0) {
                return text;
            }
            String pieces = "().,:-=!<>%_ \n\t\rabXY019-#\"\u00e9\0";
            String[] words = {"not ", "not", " :- ", "2147483648", "-2147483648", "-2147483649",
                "p", "(a)", ",X", " = ", "!=", "<=", ">=", "_", "-", ":", "!", "%x\n", "a=", "none"};
            StringBuilder out = new StringBuilder(text);
            int changes = 1 + random.nextInt(2);
            for (int i = 0; i < changes; i++) {
                int at = random.nextInt(out.length() + 1);
                int kind = random.nextInt(4);
                if (kind == 0 && at < out.length()) {
                    out.deleteCharAt(at);
                } else if (kind == 1) {
                    out.insert(at, pieces.charAt(random.nextInt(pieces.length())));
                } else if (kind == 2 && at < out.length()) {
                    out.delete(at, Math.min(out.length(), at + 1 + random.nextInt(6)));
                } else {
                    out.insert(at, words[random.nextInt(words.length)]);
                }
            }
            return LEFT_OPEN.matcher(out).find() ? text : out.toString();
        }

        void put(String text) {
            int[] words = new int[5];
            for (int from = 0; from < text.length(); from += 20) {
                for (int w = 0; w < 5; w++) {
                    words[w] = Bench.wordAt(text, from + 4 * w);
                }
                next().feed(words[0], words[1], words[2], words[3], words[4]);
            }
            next().end(text.length());
        }
    }

    // ---------------------------------------------------------------- random texts

    private static final class Writer {
        final Random random;
        final String[] names = {"p", "q", "r", "s", "t", "nota", "p1"};
        final int[] sizes = new int[names.length];
        final String[] constants = {"a", "b", "ab", "a1", "-1", "0", "1", "2", "10", "p", "00", "aB"};
        final String[] variables = {"X", "Y", "Z", "W", "_u", "Xy"};
        final int domain;
        final int variableRange;
        // A dense text has few predicates of two or three terms and few constants: more follows.
        final boolean dense;

        Writer(Random random) {
            this.random = random;
            dense = random.nextInt(3) == 0;
            for (int i = 0; i < sizes.length; i++) {
                sizes[i] = random.nextInt(8) == 0 ? random.nextInt(7) : random.nextInt(3);
                if (dense) {
                    sizes[i] = 1 + random.nextInt(random.nextInt(4) == 0 ? 3 : 2);
                }
            }
            if (dense) {
                sizes[0] = 2;
                sizes[1] = 2;
            }
            domain = dense ? 4 + random.nextInt(5) : 2 + random.nextInt(constants.length - 1);
            variableRange = 2 + random.nextInt(variables.length - 1);
        }

        int name() {
            return random.nextInt(dense ? 4 : names.length);
        }

        String predicateName() {
            return random.nextInt(6) == 0 ? "other" : names[name()];
        }

        String program() {
            StringBuilder out = new StringBuilder();
            int facts = dense ? 4 + random.nextInt(16) : random.nextInt(12);
            for (int i = 0; i < facts; i++) {
                int name = dense && random.nextInt(3) > 0 ? 0 : name();
                out.append(atom(name, null, 0)).append(blank()).append(".").append(blank());
            }
            if (dense) {
                out.append(closure());
            }
            int rules = random.nextInt(dense ? 4 : 7);
            for (int i = 0; i < rules; i++) {
                out.append(rule()).append(blank());
            }
            return out.toString();
        }

        String closure() {
            String[] steps = {"q(X,Z) :- q(X,Y), p(Y,Z). ", "q(X,Z) :- p(X,Y), q(Y,Z). ",
                "q(X,Z) :- q(X,Y), q(Y,Z). ", "q(X,Y) :- p(V,X), q(V,W), p(W,Y). ",
                "q(X,Z) :- q(Z,Y), q(X,Y), X != Z. q(Y,X) :- q(X,Y). "};
            return "q(X,Y) :- p(X,Y). " + steps[random.nextInt(steps.length)];
        }

        String blank() {
            switch (random.nextInt(12)) {
                case 0:
                    return "\n";
                case 1:
                    return "  ";
                case 2:
                    return " % not p(X) :- .\n";
                case 3:
                    return "\r\t";
                default:
                    return " ";
            }
        }

        String rule() {
            List<String> bound = new ArrayList<>();
            String body = body(bound, true);
            int head = name();
            return atom(head, bound, random.nextInt(30) == 0 ? 2 : 1) + " :-" + blank() + body + ".";
        }

        String question() {
            return body(new ArrayList<>(), false);
        }

        String body(List<String> bound, boolean rule) {
            int atoms = 1 + random.nextInt(dense && !rule ? 5 : 3);
            List<String> literals = new ArrayList<>();
            for (int i = 0; i < atoms; i++) {
                int name = name();
                literals.add(!rule && random.nextInt(12) == 0 ? "other(" + term(bound, 2) + ")"
                    : atom(name, bound, 2));
            }
            int others = dense ? random.nextInt(5) / 2 : random.nextInt(3);
            for (int i = 0; i < others; i++) {
                String other = random.nextInt(dense ? 5 : 2) > 0 == dense ? comparison(bound)
                    : "not " + atom(name(), bound, 1);
                literals.add(random.nextInt(literals.size() + 1), other);
            }
            return String.join(random.nextInt(3) == 0 ? "," : ", ", literals);
        }

        String comparison(List<String> bound) {
            String[] signs = {"=", "!=", "<", "<=", ">", ">="};
            String space = random.nextInt(2) == 0 ? " " : "";
            return term(bound, 1) + space + signs[random.nextInt(signs.length)] + space
                + term(bound, 1);
        }

        /** With how = 0 constants alone, 1 constants and bound variables, 2 any variables. */
        String atom(int name, List<String> bound, int how) {
            int size = random.nextInt(150) == 0 ? random.nextInt(8) : sizes[name];
            if (size == 0) {
                return names[name];
            }
            StringBuilder out = new StringBuilder(names[name]).append('(');
            for (int i = 0; i < size; i++) {
                out.append(i > 0 ? "," : "").append(how == 0 ? constant() : term(bound, how));
            }
            return out.append(')').toString();
        }

        String constant() {
            if (random.nextInt(40) == 0) {
                return random.nextInt(2) == 0 ? "zz" : "77";
            }
            return constants[random.nextInt(domain)];
        }

        String term(List<String> bound, int how) {
            if (how == 1 && (bound.isEmpty() || random.nextInt(5) == 0)) {
                return constant();
            }
            if (how == 1) {
                return random.nextInt(100) == 0 ? "_" : bound.get(random.nextInt(bound.size()));
            }
            int kind = random.nextInt(12);
            if (kind == 0) {
                return "_";
            }
            if (kind < 3) {
                return constant();
            }
            String variable = variables[random.nextInt(variableRange)];
            bound.add(variable);
            return variable;
        }

        String fact(Model model) {
            if (random.nextInt(2) == 0 && !model.stages.isEmpty()) {
                List<String> all = new ArrayList<>(model.stages.keySet());
                return all.get(random.nextInt(all.size()));
            }
            return random.nextInt(10) == 0 ? "other(a, b)" : atom(name(), null, 0);
        }
    }

    // ---------------------------------------------------------------- the model

    private static final class Fault extends RuntimeException {
        private static final long serialVersionUID = 1L;
        final int code;
        final int place;

        Fault(int code, int place) {
            this.code = code;
            this.place = place;
        }
    }

    private static final class Variable {
        final String name;

        Variable(String name) {
            this.name = name;
        }
    }

    private static final class Atom {
        String name;
        List<Object> terms = new ArrayList<>();

        @Override
        public String toString() {
            if (terms.isEmpty()) {
                return name;
            }
            StringBuilder out = new StringBuilder(name).append('(');
            for (int i = 0; i < terms.size(); i++) {
                out.append(i > 0 ? "," : "").append(terms.get(i));
            }
            return out.append(')').toString();
        }
    }

    private static final class Literal {
        Atom atom;
        boolean negated;
        int notPlace;
        String sign;
        Object left;
        Object right;
    }

    private static final class Clause {
        Atom head;
        List<Literal> body = new ArrayList<>();
        Map<String, Variable> variables = new LinkedHashMap<>();
        Map<Variable, Integer> needed = new LinkedHashMap<>();
        Set<Variable> given = new HashSet<>();
        List<Variable> all = new ArrayList<>();
    }

    private static final class Token {
        final char kind;
        final String text;
        final int place;

        Token(char kind, String text, int place) {
            this.kind = kind;
            this.text = text;
            this.place = place;
        }
    }

    private static final Comparator<Object> ORDER = (a, b) -> {
        boolean first = a instanceof Integer;
        boolean second = b instanceof Integer;
        if (first != second) {
            return first ? -1 : 1;
        }
        return first ? Integer.compare((Integer) a, (Integer) b) : ((String) a).compareTo((String) b);
    };

    private static final class Parser {
        final List<Token> tokens = new ArrayList<>();
        final Model model;
        final boolean changes;
        final Map<String, Integer> ownSizes = new HashMap<>();
        Fault soft;
        int at = 0;

        Parser(String text, Model model) {
            this(text, model, false);
        }

        Parser(String text, Model model, boolean changes) {
            this.model = model;
            this.changes = changes;
            cut(text);
        }

        void cut(String text) {
            Pattern pattern = Pattern.compile(
                "(?<blank>[\\t\\n\\r ]+|%[^\\n]*)|(?<name>[a-z][A-Za-z0-9_]*)"
                + "|(?<variable>[A-Z_][A-Za-z0-9_]*)|(?<number>-?[0-9]+)"
                + "|(?<sign>:-|!=|<=|>=|[(),.=<>])|(?<bad>[\\s\\S])");
            Matcher matcher = pattern.matcher(text);
            while (matcher.find()) {
                String found = matcher.group();
                int place = matcher.start();
                if (matcher.group("name") != null) {
                    tokens.add(new Token(found.equals("not") ? '!' : 'n', found, place));
                } else if (matcher.group("variable") != null) {
                    tokens.add(new Token('v', found, place));
                } else if (matcher.group("number") != null) {
                    java.math.BigInteger value = new java.math.BigInteger(found);
                    boolean good = value.bitLength() < 32;
                    tokens.add(new Token(good ? '0' : '?', value.toString(), place));
                } else if (matcher.group("sign") != null) {
                    boolean compares = "= != < <= > >=".contains(found) && !found.equals(" ");
                    tokens.add(new Token(compares ? '=' : 's', found, place));
                } else if (matcher.group("bad") != null) {
                    tokens.add(new Token('?', found, place));
                }
            }
            tokens.add(new Token('$', "", text.length()));
        }

        Token look() {
            Token token = tokens.get(at);
            if (token.kind == '?') {
                throw new Fault(1, token.place);
            }
            return token;
        }

        Token want(String kinds) {
            Token token = look();
            if (kinds.indexOf(token.kind) < 0) {
                throw new Fault(2, token.place);
            }
            return token;
        }

        boolean takes(String sign) {
            Token token = look();
            if (token.kind == 's' && token.text.equals(sign)) {
                at++;
                return true;
            }
            return false;
        }

        void must(String sign) {
            if (!takes(sign)) {
                throw new Fault(2, look().place);
            }
        }

        void note(int code, int place) {
            if (soft == null || place < soft.place) {
                soft = new Fault(code, place);
            }
        }

        Object constant(Token token) {
            Object value = token.kind == '0' ? (Object) Integer.valueOf(token.text) : token.text;
            if (changes && model.constants.add(value) && model.constants.size() > 1000) {
                throw new Fault(3, token.place);
            }
            return value;
        }

        Object term(Clause clause, boolean gives) {
            Token token = want(clause == null ? "n0" : "nv0");
            if (token.kind != 'v') {
                at++;
                return constant(token);
            }
            Variable variable = token.text.equals("_") ? null : clause.variables.get(token.text);
            if (variable == null) {
                variable = new Variable(token.text);
                clause.all.add(variable);
                if (clause.all.size() > 12) {
                    throw new Fault(3, token.place);
                }
                if (!token.text.equals("_")) {
                    clause.variables.put(token.text, variable);
                }
            }
            if (gives) {
                clause.given.add(variable);
            } else {
                clause.needed.putIfAbsent(variable, token.place);
            }
            at++;
            return variable;
        }

        Atom atom(Clause clause, boolean gives) {
            Token name = want("n");
            if (changes && !model.sizes.containsKey(name.text)) {
                if (model.sizes.size() == 64) {
                    throw new Fault(3, name.place);
                }
                model.sizes.put(name.text, -1);
            }
            at++;
            Atom atom = new Atom();
            atom.name = name.text;
            Token behind = tokens.get(at);
            if (behind.kind == 's' && behind.text.equals("(")) {
                at++;
                do {
                    if (atom.terms.size() == 6) {
                        throw new Fault(3, want(clause == null ? "n0" : "nv0").place);
                    }
                    atom.terms.add(term(clause, gives));
                } while (takes(","));
                must(")");
            }
            int size = atom.terms.size();
            Integer before = model.sizes.get(name.text);
            if (before == null) {
                before = ownSizes.putIfAbsent(name.text, size);
            } else if (before < 0) {
                model.sizes.put(name.text, size);
            }
            if (before != null && before >= 0 && before != size) {
                note(10, name.place);
            }
            return atom;
        }

        void body(Clause clause) {
            do {
                Token token = want("nv0!");
                if (clause.body.size() == 12) {
                    throw new Fault(3, token.place);
                }
                Literal literal = new Literal();
                clause.body.add(literal);
                if (token.kind == '!') {
                    at++;
                    literal.negated = true;
                    literal.notPlace = token.place;
                    literal.atom = atom(clause, false);
                } else if (token.kind == 'n' && tokens.get(at + 1).kind != '=') {
                    literal.atom = atom(clause, true);
                } else {
                    literal.left = term(clause, false);
                    literal.sign = want("=").text;
                    at++;
                    literal.right = term(clause, false);
                }
            } while (takes(","));
        }

        void checkVariables(Clause clause) {
            for (Map.Entry<Variable, Integer> entry : clause.needed.entrySet()) {
                if (!clause.given.contains(entry.getKey())) {
                    note(11, entry.getValue());
                }
            }
        }

        void program() {
            while (look().kind != '$') {
                Token token = want("n");
                if (model.clauses.size() == 256) {
                    throw new Fault(3, token.place);
                }
                Clause clause = new Clause();
                clause.head = atom(clause, false);
                if (takes(":-")) {
                    body(clause);
                }
                must(".");
                checkVariables(clause);
                model.clauses.add(clause);
            }
            if (soft != null) {
                throw soft;
            }
        }

        Fault fact(Atom[] out) {
            try {
                out[0] = atom(null, false);
                want("$");
            } catch (Fault fault) {
                return fault;
            }
            return soft;
        }

        Fault word(String[] out) {
            try {
                out[0] = want("n").text;
                at++;
                want("$");
            } catch (Fault fault) {
                return fault;
            }
            return null;
        }
    }

    private static final class Model {
        final List<Clause> clauses = new ArrayList<>();
        final Map<String, Integer> sizes = new LinkedHashMap<>();
        final Set<Object> constants = new HashSet<>();
        final Map<String, Integer> strata = new HashMap<>();
        final Map<String, Integer> stages = new LinkedHashMap<>();
        final Map<String, List<Atom>> facts = new HashMap<>();

        Fault parse(String text) {
            try {
                new Parser(text, this, true).program();
            } catch (Fault fault) {
                return fault;
            }
            for (Clause clause : clauses) {
                for (Literal literal : clause.body) {
                    if (literal.negated
                            && depends(literal.atom.name, clause.head.name, new HashSet<>())) {
                        return new Fault(12, literal.notPlace);
                    }
                }
            }
            findStrata();
            return null;
        }

        boolean depends(String from, String on, Set<String> seen) {
            if (from.equals(on)) {
                return true;
            }
            if (!seen.add(from)) {
                return false;
            }
            for (Clause clause : clauses) {
                if (clause.head.name.equals(from)) {
                    for (Literal literal : clause.body) {
                        if (literal.atom != null && depends(literal.atom.name, on, seen)) {
                            return true;
                        }
                    }
                }
            }
            return false;
        }

        void findStrata() {
            for (String name : sizes.keySet()) {
                strata.put(name, 0);
            }
            boolean changed = true;
            while (changed) {
                changed = false;
                for (Clause clause : clauses) {
                    for (Literal literal : clause.body) {
                        if (literal.atom != null) {
                            int least = strata.get(literal.atom.name) + (literal.negated ? 1 : 0);
                            if (strata.get(clause.head.name) < least) {
                                strata.put(clause.head.name, least);
                                changed = true;
                            }
                        }
                    }
                }
            }
        }

        void derive() {
            stages.clear();
            facts.clear();
            for (int level = 0; level <= sizes.size(); level++) {
                boolean more = true;
                for (int stage = 0; more; stage++) {
                    List<Atom> found = new ArrayList<>();
                    for (Clause clause : clauses) {
                        if (strata.get(clause.head.name) == level
                                && (stage > 0 || clause.body.isEmpty())) {
                            solve(clause.body, 0, new HashMap<>(),
                                values -> found.add(replace(clause.head, values)));
                        }
                    }
                    more = stage == 0;
                    for (Atom atom : found) {
                        if (stages.putIfAbsent(atom.toString(), stage) == null) {
                            facts.computeIfAbsent(atom.name, name -> new ArrayList<>()).add(atom);
                            more = true;
                        }
                    }
                }
            }
        }

        void solve(List<Literal> body, int at, Map<Variable, Object> values,
                java.util.function.Consumer<Map<Variable, Object>> found) {
            if (at == body.size()) {
                for (Literal literal : body) {
                    if (!holds(literal, values)) {
                        return;
                    }
                }
                found.accept(values);
                return;
            }
            Literal literal = body.get(at);
            if (literal.atom == null || literal.negated) {
                solve(body, at + 1, values, found);
                return;
            }
            for (Atom fact : facts.getOrDefault(literal.atom.name, List.of())) {
                Map<Variable, Object> more = new HashMap<>(values);
                boolean fits = fact.terms.size() == literal.atom.terms.size();
                for (int i = 0; fits && i < fact.terms.size(); i++) {
                    Object term = literal.atom.terms.get(i);
                    Object value = fact.terms.get(i);
                    if (term instanceof Variable) {
                        Object old = more.putIfAbsent((Variable) term, value);
                        fits = old == null || old.equals(value);
                    } else {
                        fits = term.equals(value);
                    }
                }
                if (fits) {
                    solve(body, at + 1, more, found);
                }
            }
        }

        boolean holds(Literal literal, Map<Variable, Object> values) {
            if (literal.atom != null) {
                return !literal.negated
                    || !stages.containsKey(replace(literal.atom, values).toString());
            }
            Object left = literal.left instanceof Variable ? values.get(literal.left) : literal.left;
            Object right = literal.right instanceof Variable
                ? values.get(literal.right) : literal.right;
            int order = ORDER.compare(left, right);
            switch (literal.sign) {
                case "=":
                    return order == 0;
                case "!=":
                    return order != 0;
                case "<":
                    return order < 0;
                case "<=":
                    return order <= 0;
                case ">":
                    return order > 0;
                default:
                    return order >= 0;
            }
        }

        static Atom replace(Atom atom, Map<Variable, Object> values) {
            Atom out = new Atom();
            out.name = atom.name;
            for (Object term : atom.terms) {
                out.terms.add(term instanceof Variable ? values.get(term) : term);
            }
            return out;
        }
    }

    private static final class Question {
        final Model model;
        final List<Variable> columns = new ArrayList<>();
        final Clause clause = new Clause();

        Question(Model model) {
            this.model = model;
        }

        Fault parse(String text) {
            Parser parser = new Parser(text, model);
            try {
                parser.body(clause);
                parser.want("$");
            } catch (Fault fault) {
                return fault;
            }
            parser.checkVariables(clause);
            for (Variable variable : clause.all) {
                if (!variable.name.equals("_")) {
                    columns.add(variable);
                }
            }
            return parser.soft;
        }

        TreeSet<List<Object>> rows() {
            TreeSet<List<Object>> rows = new TreeSet<>((a, b) -> {
                for (int i = 0; i < a.size(); i++) {
                    int order = ORDER.compare(a.get(i), b.get(i));
                    if (order != 0) {
                        return order;
                    }
                }
                return 0;
            });
            model.solve(clause.body, 0, new HashMap<>(), values -> {
                List<Object> row = new ArrayList<>();
                for (Variable variable : columns) {
                    row.add(values.get(variable));
                }
                rows.add(row);
            });
            return rows;
        }
    }
}
