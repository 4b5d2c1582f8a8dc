import java.util.ArrayList;
import java.util.List;

/** Every way to write an atom of three terms beside another one, tried against all constants. */
public final class JoinTests {
    /** In their order; z is a constant that no fact has. */
    private static final String[] CONSTANTS = {"1", "a", "b"};
    private static final String[] TERMS = {"X", "Y", "_", "1", "a", "z"};
    private static final String[] BESIDE = {"", "m(X)", "m(Y)", "n(X,Y)", "n(Y,X)", "n(X,X)", "n(a,Y)"};
    /** Few facts, so that most of what a wrong search would find is none; and many. */
    private static final List<String> FEW = List.of("m(1)", "m(b)", "n(1,a)", "n(a,a)", "n(b,b)", "n(b,1)", "n(1,b)",
        "t(1,1,a)", "t(1,b,b)", "t(1,b,1)", "t(a,a,a)", "t(a,b,1)", "t(a,b,b)", "t(b,1,1)", "t(b,1,a)", "t(b,b,b)");
    private static final List<String> MANY = List.of("m(a)", "m(b)", "n(a,1)", "n(a,b)", "n(b,a)", "n(a,a)",
        "t(1,1,1)", "t(1,1,b)", "t(1,a,1)", "t(1,a,a)", "t(a,1,a)", "t(a,1,b)", "t(a,a,1)", "t(a,a,b)", "t(a,b,a)",
        "t(b,1,b)", "t(b,a,1)", "t(b,a,a)", "t(b,b,1)", "t(b,b,a)", "t(b,b,b)");

    private final List<String> facts;
    private final String program;

    private JoinTests(List<String> facts) {
        this.facts = facts;
        this.program = String.join(".", facts) + ".";
    }

    public static void main(String[] args) {
        Bench.watch();
        for (List<String> facts : List.of(FEW, MANY)) {
            JoinTests tests = new JoinTests(facts);
            tests.questions();
            tests.rules();
        }
        sixTerms();
        Bench.finish("JoinTests");
    }

    // ---------------------------------------------------------------- questions

    private void questions() {
        Bench.sentence("its rows are all different values of its variables but those that are _ (in the order in "
            + "which they first stand) with which it is so");
        for (String first : TERMS) {
            for (String second : TERMS) {
                for (String third : TERMS) {
                    askBoth("t(" + first + "," + second + "," + third + ")");
                }
            }
        }
    }

    private void askBoth(String atom) {
        Bench before = Bench.with(program, facts.size());
        Bench behind = Bench.with(program, facts.size());
        for (String other : BESIDE) {
            ask(before, other.isEmpty() ? List.of(atom) : List.of(other, atom));
            ask(behind, other.isEmpty() ? List.of(atom, atom) : List.of(atom, other));
        }
    }

    private void ask(Bench bench, List<String> atoms) {
        List<String> rows = rows(atoms, columns(atoms));
        bench.ask(String.join(",", atoms), rows.size());
        if (!columns(atoms).isEmpty()) {
            bench.rows(String.join("", rows));
        }
    }

    /** X and Y, as many as there are, in the order in which they first stand. */
    private static String columns(List<String> atoms) {
        String text = String.join(",", atoms);
        int x = text.indexOf('X');
        int y = text.indexOf('Y');
        if (x < 0 || y < 0) {
            return x < 0 ? y < 0 ? "" : "Y" : "X";
        }
        return x < y ? "XY" : "YX";
    }

    private List<String> rows(List<String> atoms, String columns) {
        List<String> rows = new ArrayList<>();
        String[] tried = columns.isEmpty() ? new String[] {""} : CONSTANTS;
        for (String first : tried) {
            for (String second : columns.length() < 2 ? new String[] {""} : CONSTANTS) {
                String text = String.join(";", atoms);
                text = columns.isEmpty() ? text : text.replace(columns.substring(0, 1), first);
                text = columns.length() < 2 ? text : text.replace(columns.substring(1), second);
                if (allFollow(text.split(";"))) {
                    rows.add(first + (second.isEmpty() ? "" : "," + second) + ";");
                }
            }
        }
        return rows;
    }

    private boolean allFollow(String[] atoms) {
        for (String atom : atoms) {
            boolean found = false;
            for (String fact : facts) {
                found |= fits(fact, atom);
            }
            if (!found) {
                return false;
            }
        }
        return true;
    }

    /** All tokens have one byte here; _ stands for any constant. */
    private static boolean fits(String fact, String atom) {
        boolean fits = fact.length() == atom.length();
        for (int i = 0; fits && i < fact.length(); i++) {
            fits = atom.charAt(i) == '_' || atom.charAt(i) == fact.charAt(i);
        }
        return fits;
    }

    // ---------------------------------------------------------------- rules

    /** A head that holds the values, and one behind it that needs a second stage. */
    private void rules() {
        Bench.sentence("those of a clause's head, when its variables are replaced by constants so that each atom of "
            + "the body is a fact that follows");
        for (String first : TERMS) {
            for (String second : TERMS) {
                for (String other : BESIDE) {
                    StringBuilder text = new StringBuilder(program);
                    List<Integer> amounts = new ArrayList<>();
                    int sum = facts.size();
                    for (String third : TERMS) {
                        String atom = "t(" + first + "," + second + "," + third + ")";
                        List<String> atoms = other.isEmpty() ? List.of(atom) : List.of(atom, other);
                        int rows = rows(atoms, columns(atoms)).size();
                        text.append(rule(amounts.size(), atoms));
                        amounts.add(rows);
                        sum += 2 * rows;
                    }
                    Bench bench = Bench.with(text.toString(), sum);
                    bench.count(6, sum > facts.size() ? 2 : 0);
                    for (int i = 0; i < amounts.size(); i++) {
                        bench.ask("h" + i + "(A,B)", amounts.get(i));
                        bench.ask("i" + i + "(B,A),h" + i + "(A,B)", amounts.get(i));
                    }
                }
            }
        }
    }

    private static String rule(int number, List<String> atoms) {
        String columns = columns(atoms);
        String left = columns.isEmpty() ? "a" : columns.substring(0, 1);
        String right = columns.length() < 2 ? "b" : columns.substring(1);
        return "h" + number + "(" + left + "," + right + "):-" + String.join(",", atoms) + "."
            + "i" + number + "(B,A):-h" + number + "(A,B).";
    }

    // ---------------------------------------------------------------- atoms of six terms

    private static void sixTerms() {
        Bench.sentence("each atom of the body is a fact that follows: six TERMs, some of them known");
        StringBuilder text = new StringBuilder("v(1).");
        for (int bits = 0; bits < 64; bits++) {
            if (Integer.bitCount(bits) % 2 == 0) {
                text.append("w(").append(bits >> 5);
                for (int i = 4; i >= 0; i--) {
                    text.append(',').append(bits >> i & 1);
                }
                text.append(").");
            }
        }
        String all = "w(A,B,C,D,E,F)";
        for (int known = 0; known < 64; known++) {
            StringBuilder body = new StringBuilder();
            for (int i = 0; i < 6; i++) {
                body.append((known >> i & 1) != 0 ? "v(" + (char) ('A' + i) + ")," : "");
            }
            int rows = known == 63 ? 1 : 1 << 5 - Integer.bitCount(known);
            Bench bench = Bench.with(text + "h(F,E,D,C,B,A):-" + body + all + ".", 33 + rows);
            bench.ask(body + all, rows);
            bench.ask(body + all + ",h(F,E,D,C,B,A)", rows);
            bench.ask(all + "," + body + "not h(F,E,D,C,B,A)", 0);
        }
    }
}
