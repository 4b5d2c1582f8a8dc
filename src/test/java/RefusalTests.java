import java.util.ArrayList;
import java.util.List;
import java.util.function.Consumer;

/**
 * A refused call leaves the object as it was: the same script is played twice, once with refused
 * calls behind each of its steps, and both objects must answer alike.
 */
public final class RefusalTests {
    private static final int MIN = Integer.MIN_VALUE;
    private static final int MAX = Integer.MAX_VALUE;
    /** The program was not run, it was, it was not and cannot be, or the tape asks for too much. */
    private enum Phase { FRESH, RAN, OVERFULL, TOO_MANY_ROWS }

    private record Step(Phase phase, Consumer<Bench> call) { }

    public static void main(String[] args) {
        Bench.watch();
        callsThatThrow();
        callsThatThrowAlone();
        fedTape();
        faultyLoads();
        faultyQuestions();
        faultyFactsAndWords();
        questionsThatOnlyLook();
        Bench.finish("RefusalTests");
    }

    // ---------------------------------------------------------------- scripts

    private static List<Step> paths() {
        List<Step> script = new ArrayList<>();
        add(script, Phase.FRESH, bench -> bench.put("e(a,b). e(b,c). p(X,Y)"));
        add(script, Phase.FRESH, bench -> bench.put(":-e(X,Y). p(X,Z):-p(X,Y),e(Y,Z). o(X,1):-e(X,_),not p(X,c)."));
        add(script, Phase.FRESH, bench -> bench.load(null));
        add(script, Phase.FRESH, bench -> bench.counts(5, 3, 4, 2, -1, 0, -1));
        add(script, Phase.FRESH, bench -> bench.stratum("o", 1));
        add(script, Phase.RAN, bench -> bench.run(5));
        add(script, Phase.RAN, bench -> bench.put("p(X"));
        add(script, Phase.RAN, bench -> bench.put(",Y)"));
        add(script, Phase.RAN, bench -> bench.ask(3));
        add(script, Phase.RAN, bench -> bench.rows("a,b;a,c;b,c;"));
        add(script, Phase.RAN, bench -> bench.stage("p(a,c)", 2));
        add(script, Phase.RAN, bench -> bench.run(5));
        add(script, Phase.RAN, bench -> bench.rows("a,b;a,c;b,c;"));
        add(script, Phase.RAN, bench -> bench.columns(2));
        add(script, Phase.RAN, bench -> bench.ask("p(a,X), not e(a,X)", 1));
        add(script, Phase.RAN, bench -> bench.rows("c;"));
        add(script, Phase.RAN, bench -> bench.counts(5, 3, 4, 2, 5, 1, 2));
        add(script, Phase.FRESH, bench -> bench.load("p(7). q(X):-p(X).", -1));
        add(script, Phase.FRESH, bench -> bench.counts(2, 2, 1, 1, -1, 0, -1));
        add(script, Phase.RAN, bench -> bench.run(2));
        add(script, Phase.RAN, bench -> bench.ask("q(X)", 1));
        add(script, Phase.RAN, bench -> bench.rows("7;"));
        return script;
    }

    private static List<Step> overfull() {
        List<Step> script = new ArrayList<>();
        add(script, Phase.FRESH, bench -> bench.load("p(1). p(2).", -1));
        add(script, Phase.RAN, bench -> bench.run(2));
        add(script, Phase.RAN, bench -> bench.ask("p(X)", 2));
        add(script, Phase.OVERFULL, bench -> bench.load(Bench.facts("n", 28) + "d(X,Y,Z):-n(X),n(Y),n(Z).", -1));
        add(script, Phase.OVERFULL, bench -> bench.counts(29, 2, 28, 1, -1, 0, -1));
        add(script, Phase.OVERFULL, bench -> bench.put("n(3"));
        add(script, Phase.OVERFULL, bench -> bench.end(1, "nothing"));
        add(script, Phase.OVERFULL, bench -> bench.stratum(0));
        add(script, Phase.FRESH, bench -> bench.load("p(3).", -1));
        add(script, Phase.RAN, bench -> bench.run(1));
        add(script, Phase.RAN, bench -> bench.ask("p(X)", 1));
        add(script, Phase.RAN, bench -> bench.rows("3;"));
        return script;
    }

    private static List<Step> manyRows() {
        List<Step> script = new ArrayList<>();
        add(script, Phase.FRESH, bench -> bench.load(Bench.facts("n", 71), -1));
        add(script, Phase.RAN, bench -> bench.run(71));
        add(script, Phase.RAN, bench -> bench.ask("n(X), X < 2", 2));
        add(script, Phase.TOO_MANY_ROWS, bench -> bench.put("n(X), n(Y)"));
        add(script, Phase.TOO_MANY_ROWS, bench -> bench.rows("0;1;"));
        add(script, Phase.TOO_MANY_ROWS, bench -> bench.counts(71, 1, 71, 1, 71, 2, 0));
        add(script, Phase.TOO_MANY_ROWS, bench -> bench.columns(1));
        add(script, Phase.RAN, bench -> bench.put(", Y < X, X < 3"));
        add(script, Phase.RAN, bench -> bench.ask(3));
        add(script, Phase.RAN, bench -> bench.rows("1,0;2,0;2,1;"));
        return script;
    }

    private static void add(List<Step> script, Phase phase, Consumer<Bench> call) {
        script.add(new Step(phase, call));
    }

    // ---------------------------------------------------------------- calls that throw

    private static void callsThatThrow() {
        Bench.sentence("A call that throws changes nothing");
        for (List<Step> script : List.of(paths(), overfull(), manyRows())) {
            twice(script, true, (bench, phase) -> {
                throwing(bench, phase, 0);
                throwing(bench, phase, 1);
                throwing(bench, phase, 2);
                throwing(bench, phase, 3);
            });
        }
    }

    private static void callsThatThrowAlone() {
        Bench.sentence("A call that throws changes nothing, each kind of call by itself");
        for (int kind = 0; kind < 4; kind++) {
            int only = kind;
            for (List<Step> script : List.of(paths(), overfull(), manyRows())) {
                twice(script, true, (bench, phase) -> throwing(bench, phase, only));
            }
        }
    }

    private static void throwing(Bench bench, Phase phase, int kind) {
        switch (kind) {
            case 0:
                bench.end(-1, Bench.ARGUMENT);
                bench.end(bench.tapeLength() + 1, Bench.ARGUMENT);
                bench.end(MIN, Bench.ARGUMENT);
                bench.end(MAX, Bench.ARGUMENT);
                break;
            case 1:
                bench.count(-1, Bench.ARGUMENT);
                bench.count(7, Bench.ARGUMENT);
                break;
            case 2:
                bench.isNumber(-1, 0, Bench.INDEX);
                bench.number(0, -1, Bench.INDEX);
                bench.number(5000, 0, Bench.INDEX);
                bench.letter(0, 12, 0, Bench.INDEX);
                bench.letter(0, 0, -1, Bench.INDEX);
                bench.letter(0, 0, MAX, Bench.INDEX);
                break;
            default:
                throwingByPhase(bench, phase);
        }
    }

    private static void throwingByPhase(Bench bench, Phase phase) {
        if (phase == Phase.OVERFULL) {
            bench.run(Bench.UNSUPPORTED);
        }
        if (phase == Phase.OVERFULL || phase == Phase.FRESH) {
            bench.ask(Bench.STATE);
            bench.stage(Bench.STATE);
        }
        if (phase == Phase.TOO_MANY_ROWS) {
            bench.ask(Bench.UNSUPPORTED);
        }
    }

    /** Goes beyond the promised calls: only 3276 feeds fill a tape. */
    private static void fedTape() {
        Bench.sentence("A call that throws changes nothing: feed");
        Bench bench = new Bench(4000);
        bench.load("e(a,b). e(b,c).", -1);
        bench.run(2);
        bench.ask("e(X,Y)", 2);
        bench.ask("e(", -3);
        bench.put("e(a,X)%");
        while (bench.tapeLength() + 20 <= 65536) {
            bench.feed(-1, 0, MIN, MAX, 0x202020, null);
        }
        String before = bench.seen(true);
        bench.feed(0x2c2c2c2c, 0x2c2c2c2c, 0x2c2c2c2c, 0x2c2c2c2c, 0x2c2c2c2c, Bench.UNSUPPORTED);
        bench.feed(0x0a0a0a0a, 0x2c2c2c2c, 0x2c2c2c2c, 0x2c2c2c2c, 0x2c2c2c2c, Bench.UNSUPPORTED);
        Bench.due("what is seen", bench.seen(true), before);
        bench.end(bench.tapeLength() + 1, Bench.ARGUMENT);
        bench.ask(1);
        bench.rows("b;");
    }

    // ---------------------------------------------------------------- calls with a fault

    private static void faultyLoads() {
        Bench.sentence("load: or the place of its fault: then all else stays");
        String[] texts = {"#", "p(", "p(7", "p(7). q(1,2,3,4,5,6,7).", "p. p(a).", "zz(X).", "e(b,a). p :- not p.",
            "e(1). e(2). n(a). n(b). n(c). z :- e(X), not z.", "p(8). q(X):-p(X). r(X):-q(X). #"};
        int[] codes = {1, 2, 2, 3, 10, 11, 12, 12, 1};
        for (int i = 0; i < texts.length; i++) {
            String text = texts[i];
            faulty(codes[i], bench -> bench.load(text, null), Phase.values());
        }
    }

    private static void faultyQuestions() {
        Bench.sentence("ask: -1 less the place of its fault: then the rows stay");
        String[] texts = {"", "#", "e(", "p(X,Y).", "e(1,2,3,4,5,6,7)", "p(a,b), p", "X = 7", "z(X), z(X,Y)",
            "1=1,1=1,1=1,1=1,1=1,1=1,1=1,1=1,1=1,1=1,1=1,1=1,1=1"};
        int[] codes = {2, 1, 2, 2, 3, 10, 11, 10, 3};
        for (int i = 0; i < texts.length; i++) {
            String text = texts[i];
            faulty(codes[i], bench -> bench.ask(text, null), Phase.RAN);
        }
    }

    private static void faultyFactsAndWords() {
        Bench.sentence("stage and stratum: a fault leaves all but the tape and the fault");
        String[] texts = {"", "#", "e(", "p(X,Y)", "e(1,2,3,4,5,6,7)", "p(a,b) p"};
        int[] codes = {2, 1, 2, 2, 3, 2};
        for (int i = 0; i < texts.length; i++) {
            String text = texts[i];
            faulty(codes[i], bench -> bench.stage(text, null), Phase.RAN);
        }
        String[] words = {"", "#", "X", "p(", "p p", "99999999999"};
        int[] wordCodes = {2, 1, 2, 2, 2, 1};
        for (int i = 0; i < words.length; i++) {
            String word = words[i];
            faulty(wordCodes[i], bench -> bench.stratum(word, null), Phase.values());
        }
    }

    private static void faulty(int code, Consumer<Bench> call, Phase... phases) {
        whenEmpty(bench -> {
            call.accept(bench);
            bench.fault(code);
            bench.end(1, Bench.ARGUMENT);
        }, phases);
    }

    private static void questionsThatOnlyLook() {
        Bench.sentence("stage, stratum and run leave the program and the rows");
        whenEmpty(bench -> bench.stage("p(a,c)", null), Phase.RAN);
        whenEmpty(bench -> bench.stage("other(new,7)", -1), Phase.RAN);
        whenEmpty(bench -> bench.stratum("other", -1), Phase.values());
        whenEmpty(bench -> bench.stratum("p", null), Phase.values());
        whenEmpty(bench -> bench.run(null), Phase.RAN);
        whenEmpty(bench -> bench.fault(null), Phase.values());
    }

    /** A fault empties the tape, so it can only be met where the script has an empty one. */
    private static void whenEmpty(Consumer<Bench> call, Phase... phases) {
        for (List<Step> script : List.of(paths(), overfull(), manyRows())) {
            twice(script, false, (bench, phase) -> {
                if (bench.tapeLength() == 0 && List.of(phases).contains(phase)) {
                    call.accept(bench);
                }
            });
        }
    }

    // ---------------------------------------------------------------- both objects

    private interface Refused {
        void play(Bench bench, Phase phase);
    }

    private static void twice(List<Step> script, boolean sameFault, Refused refused) {
        Bench plain = new Bench();
        Bench disturbed = new Bench();
        for (Step step : script) {
            step.call.accept(plain);
            step.call.accept(disturbed);
            Bench.due("with refused calls", disturbed.log, plain.log);
            refused.play(disturbed, step.phase);
            plain.log.setLength(0);
            disturbed.log.setLength(0);
            if (sameFault) {
                plain.fault(null);
                disturbed.fault(null);
            }
        }
        Bench.due("with refused calls", disturbed.seen(sameFault), plain.seen(sameFault));
    }
}
