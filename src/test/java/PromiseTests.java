/** The promises of the document, one after the other, each with its edges and wrong inputs. */
public final class PromiseTests {
    private static final String PATHS =
        "e(a,b). e(b,c). e(c,d).\np(X,Y) :- e(X,Y).\np(X,Z) :- p(X,Y), e(Y,Z).\n"
        + "n(X) :- e(X,_). n(X) :- e(_,X). far(X,Y) :- n(X), n(Y), not p(X,Y), X != Y.";
    private static final int PATH_FACTS = 19;
    private static final int SPACES = 0x20202020;
    private static final int MIN = Integer.MIN_VALUE;
    private static final int MAX = Integer.MAX_VALUE;

    public static void main(String[] args) {
        Bench.watch();
        newObject();
        feed();
        feedUpToTheLimit();
        end();
        endOfEachLength();
        load();
        loadRefused();
        fault();
        faultOfCallsThatThrow();
        run();
        runAgain();
        runUpToTheLimit();
        runBeyondTheLimit();
        ask();
        askWithoutVariables();
        askForOtherNames();
        askRefused();
        askBeforeARun();
        askUpToTheLimit();
        manyCombinations();
        columns();
        isNumber();
        rowOrder();
        number();
        letter();
        noSuchCell();
        stage();
        stageBeforeARun();
        stratum();
        count();
        countOfNothing();
        lastPromisedCall();
        Bench.finish("PromiseTests");
    }

    // ---------------------------------------------------------------- promises 1 to 3

    private static void newObject() {
        Bench.sentence("An empty tape, a program without clauses that was not run, no rows");
        Bench bench = new Bench();
        bench.counts(0, 0, 0, 0, -1, 0, -1);
        bench.fault(0);
        bench.columns(0);
        bench.noCell(0, 0);
        bench.end(1, Bench.ARGUMENT);
        bench.end(0, "nothing");
        bench.ask(Bench.STATE);
        bench.stage(Bench.STATE);
        bench.counts(0, 0, 0, 0, -1, 0, -1);
        bench.run(0);
        bench.counts(0, 0, 0, 0, 0, 0, 0);
        new Bench().feed(0, 0, 0, 0, 0, 20);
        new Bench().load(-1);
        bench = new Bench();
        bench.stratum(-2);
        bench.fault(2);
        bench.stratum("p", -1);
        bench.run(0);
        bench.ask("p(X)", 0);
        bench.ask("not p(a)", 1);
        bench.stage("p", -1);
        Bench.due("NONE", StrataBase.NONE, -1);
    }

    private static void feed() {
        Bench.sentence("Twenty bytes more of the tape, the highest of each number first: how many it has");
        Bench bench = new Bench();
        // "abcd(efgh,ijkl,mno)." has 20 bytes.
        bench.feed(0x61626364, 0x28656667, 0x682c696a, 0x6b6c2c6d, 0x6e6f292e, 20);
        bench.load(-1);
        bench.run(1);
        bench.feed(0x61626364, 0x28582c59, 0x2c5a2920, SPACES, SPACES, 20);
        bench.ask(1);
        bench.rows("efgh,ijkl,mno;");
        for (int length = 20; length <= 200; length += 20) {
            bench.feed(SPACES, SPACES, SPACES, SPACES, SPACES, length);
        }
        bench.end(7, "nothing");
        bench.feed(SPACES, SPACES, SPACES, SPACES, SPACES, 27);
        bench.end(0, "nothing");
        bench.feed(SPACES, SPACES, SPACES, SPACES, SPACES, 20);
        bench.load(-1);
        bench.feed(SPACES, SPACES, SPACES, SPACES, SPACES, 20);
        bench.stratum(-22);
        bench.feed(SPACES, SPACES, SPACES, SPACES, SPACES, 20);
        Bench.sentence("feed: bytes from 128 on, and numbers below 0");
        bench = new Bench();
        bench.feed(0x702e25ff, -1, MIN, 0x80808080, 0x7f00ff0a, 20);
        bench.feed(0x712e2020, SPACES, SPACES, SPACES, 0x20202080, 40);
        bench.load(39);
        bench.fault(1);
    }

    /** Goes beyond the promised calls: only 3276 feeds fill a tape. */
    private static void feedUpToTheLimit() {
        Bench.sentence("UnsupportedOperationException: they would be more than 65536");
        Bench bench = new Bench(4000);
        for (int length = 20; length <= 65520; length += 20) {
            bench.feed(SPACES, SPACES, SPACES, SPACES, SPACES, length);
        }
        bench.feed(0, 0, 0, 0, 0, Bench.UNSUPPORTED);
        bench.end(65521, Bench.ARGUMENT);
        bench.end(65517, "nothing");
        bench.feed(0, 0, 0, 0, 0, Bench.UNSUPPORTED);
        bench.end(65518, Bench.ARGUMENT);
        bench.end(65516, "nothing");
        bench.feed(SPACES, SPACES, SPACES, SPACES, 0x20202070, 65536);
        bench.feed(0, 0, 0, 0, 0, Bench.UNSUPPORTED);
        bench.end(65537, Bench.ARGUMENT);
        bench.end(65536, "nothing");
        bench.load(65536);
        bench.fault(2);
        bench.feed(0, 0, 0, 0, 0, 20);
    }

    private static void end() {
        Bench.sentence("The tape keeps its first n bytes. IllegalArgumentException: n is below 0, or it has not "
            + "so many");
        Bench bench = new Bench();
        bench.end(0, "nothing");
        bench.end(1, Bench.ARGUMENT);
        bench.end(-1, Bench.ARGUMENT);
        bench.put("p. q. r.");
        for (int n : new int[] {-1, 9, 20, MIN, MAX, MIN + 8, -MAX}) {
            bench.end(n, Bench.ARGUMENT);
        }
        bench.end(8, "nothing");
        bench.end(5, "nothing");
        bench.end(6, Bench.ARGUMENT);
        bench.load(-1);
        bench.count(0, 2);
        bench.end(1, Bench.ARGUMENT);
        bench.end(0, "nothing");
        bench.put("p. q. r.");
        bench.end(0, "nothing");
        bench.load(-1);
        bench.count(0, 0);
        Bench.sentence("end, and feed behind it");
        bench.put("p. # bad");
        bench.end(3, "nothing");
        bench.put("q. r.");
        bench.load(-1);
        bench.count(0, 3);
        bench.feed(0x702e0000, 0, 0, 0, 0, 20);
        bench.end(20, "nothing");
        bench.load(2);
        bench.fault(1);
    }

    private static void endOfEachLength() {
        Bench.sentence("The tape keeps its first n bytes: what stood behind them counts no more");
        cutBehind("p :- q.", 3, 1, 2);
        cutBehind("p :- 1 != 2.", 8, 1, 7);
        cutBehind("p :- 1 <= 2.", 8, 2, 8);
        cutBehind("p(-1).", 3, 1, 2);
        cutBehind("p(X) :- q(X), not r.", 17, 2, 17);
        cutBehind("p(X) :- q(X), not r.", 16, 2, 16);
        cutBehind("p. % x\nq", 6, 0, -1);
        cutBehind("p. nota.", 6, 2, 3);
        cutBehind("p(12). p(12345678901).", 19, 2, 19);
        cutBehind("p(12). p(12345678901).", 20, 1, 9);
        Bench bench = new Bench();
        for (int n = 0; n <= 40; n++) {
            bench.put("p.".repeat(20));
            bench.end(n, "nothing");
            bench.load(n % 2 == 0 ? -1 : n);
        }
    }

    private static void cutBehind(String text, int length, int code, int place) {
        Bench bench = new Bench();
        bench.put(text);
        bench.end(length, "nothing");
        bench.load(place);
        bench.fault(code);
    }

    // ---------------------------------------------------------------- promises 4 and 5

    private static void load() {
        Bench.sentence("The tape (which is empty then) is a program, in place of the one before, and was not run; "
            + "the rows are none: NONE");
        Bench bench = Bench.with(PATHS, PATH_FACTS);
        bench.ask("p(a,X)", 3);
        bench.load("q(1). q(2) :- not r.", -1);
        bench.fault(0);
        bench.end(1, Bench.ARGUMENT);
        bench.counts(2, 2, 2, 2, -1, 0, -1);
        bench.columns(0);
        bench.noCell(0, 0);
        bench.ask(Bench.STATE);
        bench.stage(Bench.STATE);
        bench.stratum("p", -1);
        bench.stratum("q", 1);
        bench.run(2);
        bench.ask("p(X,Y)", 0);
        bench.ask("q(a)", 0);
        bench.ask("q(X)", 2);
        bench.rows("1;2;");
        Bench.sentence("load: .. a program, in place of the one before: no fact of that one follows");
        for (String way : new String[] {"abc", "acb", "cba", "bac", "abc"}) {
            char from = way.charAt(0);
            char over = way.charAt(1);
            char to = way.charAt(2);
            bench.load("e(" + from + "," + over + "). e(" + over + "," + to + "). t(X,Z):-e(X,Y),e(Y,Z)."
                + " u(X):-t(" + from + ",X),not e(" + from + ",X).", -1);
            bench.run(4);
            bench.ask("t(X,Y), u(Y), e(X,Z)", 1);
            bench.rows(from + "," + to + "," + over + ";");
        }
        Bench.sentence("load: an empty tape is a program");
        bench.load(-1);
        bench.counts(0, 0, 0, 0, -1, 0, -1);
        bench.ask(Bench.STATE);
        bench.run(0);
        bench.load(-1);
        bench.count(4, -1);
        Bench.sentence("load: the same program again was not run");
        bench.load("p(1).", -1);
        bench.run(1);
        bench.load("p(1).", -1);
        bench.count(4, -1);
        bench.ask(Bench.STATE);
    }

    private static void loadRefused() {
        Bench.sentence("or the place of its fault: then all else stays");
        String[] faulty = {"p(#).", "p(X)", "r(a,b,c,d,e,f,g).", "p(a). p.", "z. p(X,Y).", "p :- not p."};
        int[] codes = {1, 2, 3, 10, 11, 12};
        int[] places = {2, 4, 14, 6, 5, 5};
        for (int i = 0; i < faulty.length; i++) {
            new Bench().refused(faulty[i], codes[i], places[i]);
            Bench bench = new Bench();
            bench.load(PATHS, -1);
            bench.refused(faulty[i], codes[i], places[i]);
            bench.counts(8, 4, 4, 2, -1, 0, -1);
            bench.ask(Bench.STATE);
            bench.run(PATH_FACTS);
            bench.ask("p(a,X)", 3);
            bench.refused(faulty[i], codes[i], places[i]);
            bench.end(1, Bench.ARGUMENT);
            bench.counts(8, 4, 4, 2, PATH_FACTS, 3, 3);
            bench.columns(1);
            bench.rows("b;c;d;");
            bench.run(PATH_FACTS);
            bench.stage("p(a,d)", 3);
            bench.stratum("far", 1);
            bench.ask("far(X,Y)", 6);
            bench.load("z.", -1);
            bench.counts(1, 1, 0, 1, -1, 0, -1);
        }
    }

    private static void fault() {
        Bench.sentence("Of the latest load(), ask(), stage() or stratum(): the code of its fault; 0 if it had "
            + "none, or there was none");
        Bench bench = new Bench();
        bench.fault(0);
        bench.load("p(X).", 2);
        bench.fault(11);
        bench.run(0);
        bench.count(0, 0);
        bench.feed(SPACES, SPACES, SPACES, SPACES, SPACES, 20);
        bench.end(0, "nothing");
        bench.fault(11);
        bench.stratum("1", -2);
        bench.fault(2);
        bench.stratum("a", -1);
        bench.fault(0);
        bench.ask("p(#", -3);
        bench.fault(1);
        bench.stage("p(X)", -4);
        bench.fault(2);
        bench.ask("p(X)", 0);
        bench.fault(0);
        bench.ask("X = 1", -1);
        bench.fault(11);
        bench.stage("p", -1);
        bench.fault(0);
        bench.load("p. p(a).", 3);
        bench.fault(10);
        bench.load("p.", -1);
        bench.fault(0);
        bench.load("p :- not p.", 5);
        bench.fault(12);
        bench.stratum("p", 0);
        bench.fault(0);
        bench.load("p(1,2,3,4,5,6,7)", 14);
        bench.fault(3);
        bench.fault(3);
    }

    private static void faultOfCallsThatThrow() {
        Bench.sentence("fault; A call that throws changes nothing");
        Bench bench = new Bench();
        bench.load("p. p(a).", 3);
        bench.put("p(");
        bench.ask(Bench.STATE);
        bench.stage(Bench.STATE);
        bench.fault(10);
        bench.load(2);
        bench.fault(2);
        bench.load(Bench.facts("n", 80), -1);
        bench.run(80);
        bench.ask("n(", -3);
        bench.put("n(X), n(Y)");
        bench.ask(Bench.UNSUPPORTED);
        bench.fault(2);
        bench.end(4, "nothing");
        bench.ask(80);
        bench.fault(0);
        bench.put("n(X), n(Y)");
        bench.ask(Bench.UNSUPPORTED);
        bench.fault(0);
    }

    // ---------------------------------------------------------------- promise 6

    private static void run() {
        Bench.sentence("The program is run: how many facts follow");
        Bench.with(PATHS, PATH_FACTS).count(4, PATH_FACTS);
        Bench.with("", 0).count(4, 0);
        Bench.with("p :- q.", 0).count(4, 0);
        Bench.with("p.", 1).count(4, 1);
        Bench.with("a. b :- a. c :- not b. d :- not c. e :- d, b, not f.", 4).count(4, 4);
        Bench.with("n(1). n(2). n(3). lt(X,Y) :- n(X), n(Y), X < Y. least(X) :- n(X), not above(X)."
            + " above(Y) :- lt(X,Y).", 9).ask("least(1)", 1);
    }

    private static void runAgain() {
        Bench.sentence("(the same again, if it was run; rows stay)");
        Bench bench = Bench.with(PATHS, PATH_FACTS);
        bench.run(PATH_FACTS);
        bench.ask("p(X,Y)", 6);
        bench.put("p(a");
        bench.run(PATH_FACTS);
        bench.counts(8, 4, 4, 2, PATH_FACTS, 6, 3);
        bench.columns(2);
        bench.rows("a,b;a,c;a,d;b,c;b,d;c,d;");
        bench.end(4, Bench.ARGUMENT);
        bench.put(",X)");
        bench.ask(3);
        bench.run(PATH_FACTS);
        bench.stage("p(a,d)", 3);
        bench.run(PATH_FACTS);
    }

    private static void runUpToTheLimit() {
        Bench.sentence("UnsupportedOperationException: more than 20000");
        String pairs = Bench.facts("n", 100) + "d(X,Y):-n(X),n(Y).f(X,Y):-n(X),n(Y),X!=Y.";
        Bench bench = Bench.with(pairs, 20000);
        bench.count(4, 20000);
        bench.count(6, 1);
        bench.run(20000);
        bench.ask("d(1,X), f(X,0)", 99);
        bench.ask("f(0,X), d(X,Y), f(Y,1), X < 40, Y > 97", 39 * 2);
        bench.ask("d(X,Y), f(Y,Z), X = 1, Z = 2", 99);
        bench.ask("f(X,3), f(4,X), d(X,X), not f(X,5)", 1);
        bench.rows("5;");
        Bench.with(pairs + "n(0).n(1):-n(2).d(0,0).f(0,1).z:-not n(0).", 20000).stage("d(0,0)", 0);
        Bench.with(pairs + "y:-not n(5).z:-not z2,y.", 20000).stratum("z", 1);
        Bench.with(pairs.replace("n(99).", ""), 99 + 99 * 99 + 99 * 98).stage("d(99,0)", -1);
    }

    private static void runBeyondTheLimit() {
        Bench.sentence("UnsupportedOperationException: more than 20000; it was not run then");
        String pairs = Bench.facts("n", 100) + "d(X,Y):-n(X),n(Y).f(X,Y):-n(X),n(Y),X!=Y.";
        String[] oneMore = {"z.", "z:-n(0).", "z:-not y.", "z:-not y.y:-not x,x.", "z:-d(99,99),f(99,98)."};
        for (String more : oneMore) {
            Bench bench = new Bench();
            bench.load(pairs + more, -1);
            bench.fault(0);
            bench.run(Bench.UNSUPPORTED);
            bench.count(4, -1);
            bench.count(6, -1);
            bench.count(0, 102 + (more.contains("y:-") ? 2 : 1));
            bench.run(Bench.UNSUPPORTED);
            bench.ask(Bench.STATE);
            bench.put("d(0,0)");
            bench.ask(Bench.STATE);
            bench.stage(Bench.STATE);
            bench.end(1, "nothing");
            bench.stratum(0);
            bench.load("p(X)", 4);
            bench.run(Bench.UNSUPPORTED);
            bench.load("p(7).", -1);
            bench.run(1);
            bench.ask("p(X)", 1);
            bench.rows("7;");
        }
        Bench bench = Bench.with("p(1).", 1);
        bench.load(Bench.facts("n", 28) + "d(X,Y,Z):-n(X),n(Y),n(Z).", -1);
        bench.run(Bench.UNSUPPORTED);
        bench.load(Bench.facts("n", 27) + "d(X,Y,Z):-n(X),n(Y),n(Z).", -1);
        bench.run(27 + 19683);
        bench.count(6, 1);
    }

    // ---------------------------------------------------------------- promise 7

    private static void ask() {
        Bench.sentence("its rows are all different values of its variables but those that are _ (in the order in "
            + "which they first stand) with which it is so; how many");
        Bench bench = Bench.with(PATHS, PATH_FACTS);
        bench.ask("p(X,Y)", 6);
        bench.fault(0);
        bench.end(1, Bench.ARGUMENT);
        bench.rows("a,b;a,c;a,d;b,c;b,d;c,d;");
        bench.ask("p(a , X), % what\n not e(X,d)", 2);
        bench.rows("b;d;");
        bench.ask("Y != b, p(X,Y), e(Y,Z)", 2);
        bench.rows("c,a,d;c,b,d;");
        bench.ask("e(_,X), e(X,_)", 2);
        bench.rows("b;c;");
        bench.ask("p(A,B),p(B,C),p(C,D)", 1);
        bench.rows("a,b,c,d;");
        bench.ask("far(X,Y), X < Y", 0);
        bench.ask("far(d,X)", 3);
        bench.ask("p(X,X)", 0);
        bench.ask("n(X), X = b", 1);
        bench.rows("b;");
        bench.ask("n(X), n(Y), X = Y", 4);
        bench.rows("a,a;b,b;c,c;d,d;");
        bench = Bench.with("m(1,1). m(1,2). m(2,2). m(3,1).", 4);
        bench.ask("m(X,X)", 2);
        bench.ask("m(X,_)", 3);
        bench.ask("m(X,_), m(_,Y)", 6);
        bench.ask("m(X,Y), m(Y,X), X <= Y", 2);
        bench.rows("1,1;2,2;");
    }

    private static void askWithoutVariables() {
        Bench.sentence("(.. without such one row of no columns) (without such variables one row of no columns, if "
            + "it is so)");
        Bench bench = Bench.with(PATHS, PATH_FACTS);
        String[] so = {"p(a,d)", "not p(d,a)", "1 < 2", "p(_,_)", "p(_,_), e(_,d)", "n(_), not x(a), a = a"};
        for (String text : so) {
            bench.ask(text, 1);
            bench.count(5, 1);
            bench.columns(0);
            bench.noCell(0, 0);
            bench.fault(0);
        }
        String[] not = {"p(d,a)", "not p(a,d)", "2 < 1", "p(_,a)", "p(_,_), e(d,_)", "x(_)", "n(_), a != a"};
        for (String text : not) {
            bench.ask(text, 0);
            bench.count(5, 0);
            bench.columns(0);
            bench.noCell(0, 0);
            bench.fault(0);
        }
    }

    private static void askForOtherNames() {
        Bench.sentence("(Predicates and constants that the program has not are no fault, however many; no facts "
            + "have them.)");
        Bench bench = Bench.with("p(a). p(c). p(3).", 3);
        bench.ask("q(X)", 0);
        bench.fault(0);
        bench.ask("q", 0);
        bench.ask("not q", 1);
        bench.ask("p(b)", 0);
        bench.ask("p(4)", 0);
        bench.ask("p(X), q(X)", 0);
        bench.ask("p(X), not q(X), not q(b), not p(b), not p(7)", 3);
        bench.rows("3;a;c;");
        bench.ask("q(x1,x2,x3,x4,x5,x6), r(1,2,X,4,5,6)", 0);
        bench.counts(3, 1, 3, 1, 3, 0, 0);
        bench.ask("p(X), X != zz", 3);
        bench.counts(3, 1, 3, 1, 3, 3, 0);
        bench.stratum("q", -1);
    }

    private static void askRefused() {
        Bench.sentence("-1 less the place of its fault (1; 2; 3 ..; 10 ..; 11): then the rows stay");
        String[] faulty = {"p(#", "", "p", "p(1,2,3,4,5,6,7)", "n(X), n(X,X)", "n(X), Y = X", "n(a).", "12"};
        int[] codes = {1, 2, 10, 3, 10, 11, 2, 2};
        int[] places = {2, 0, 0, 14, 6, 6, 4, 2};
        for (int i = 0; i < faulty.length; i++) {
            Bench bench = Bench.with(PATHS, PATH_FACTS);
            bench.askRefused(faulty[i], codes[i], places[i]);
            bench.counts(8, 4, 4, 2, PATH_FACTS, 0, 3);
            bench.ask("p(a,X)", 3);
            bench.askRefused(faulty[i], codes[i], places[i]);
            bench.counts(8, 4, 4, 2, PATH_FACTS, 3, 3);
            bench.columns(1);
            bench.rows("b;c;d;");
            bench.noCell(3, 0);
            bench.ask("p(X,Y)", 6);
        }
    }

    private static void askBeforeARun() {
        Bench.sentence("IllegalStateException: the program was not run");
        Bench bench = new Bench();
        bench.ask(Bench.STATE);
        bench.load(Bench.facts("n", 80), -1);
        bench.ask(Bench.STATE);
        bench.fault(0);
        Bench.sentence("Methods throw .. the one named first when several would do");
        bench.put("n(X), n(Y)");
        bench.ask(Bench.STATE);
        bench.end(10, "nothing");
        bench.run(80);
        bench.ask(Bench.UNSUPPORTED);
        bench.end(4, "nothing");
        bench.ask(80);
        bench.load("p(", 2);
        bench.ask("n(1)", 1);
        bench.load("n(1).", -1);
        bench.put("n(");
        bench.ask(Bench.STATE);
        bench.fault(0);
        bench.end(2, "nothing");
    }

    private static void askUpToTheLimit() {
        Bench.sentence("UnsupportedOperationException: there are more than 5000 rows (the tape and the rows stay "
            + "then)");
        Bench bench = Bench.with(Bench.facts("n", 100) + Bench.facts("m", 50) + "r(X,Y):-n(X),m(Y).r(a,a).", 5151);
        bench.ask("n(X), m(Y)", 5000);
        bench.count(5, 5000);
        bench.number(0, 0, 0);
        bench.number(0, 1, 0);
        bench.number(4999, 0, 99);
        bench.number(4999, 1, 49);
        bench.noCell(5000, 0);
        bench.put("r(X,Y)");
        bench.ask(Bench.UNSUPPORTED);
        bench.count(5, 5000);
        bench.columns(2);
        bench.number(4999, 1, 49);
        bench.number(50, 0, 1);
        bench.noCell(5000, 0);
        bench.ask(Bench.UNSUPPORTED);
        bench.end(7, Bench.ARGUMENT);
        bench.put(", X != a");
        bench.ask(5000);
        bench.number(4999, 1, 49);
        bench.ask("r(X,X)", 51);
        bench.rows(Bench.numbered("", 0, 50, ";") + "a;");
        bench.put("r(_,X), n(Y)");
        bench.ask(Bench.UNSUPPORTED);
        bench.columns(1);
        bench.number(49, 0, 49);
        bench.letter(50, 0, 0, (int) 'a');
        bench.end(5, "nothing");
        bench.ask(-6);
        bench.fault(2);
        Bench.sentence("ask: a question with a fault has no rows, be they too many or not");
        bench.askRefused("n(X), n(Y), not n", 10, 16);
        bench.askRefused("n(X), n(Y), Z = X", 11, 12);
        bench.askRefused("n(X), n(Y),", 2, 11);
        bench.askRefused("n(X), n(Y) n(Z)", 2, 11);
        bench.askRefused("n(X), n(Y), n(#", 1, 14);
        bench.columns(1);
        bench.count(5, 51);
        Bench.sentence("more than 5000 rows: only different ones count");
        bench.ask("r(X,_), n(_), m(_), X != a", 100);
        bench.ask("n(X), m(Y), n(_)", 5000);
        bench.ask("r(_,_), n(_)", 1);
        bench.ask("r(X,_), r(_,X)", 51);
    }

    private static void manyCombinations() {
        Bench.sentence("how many facts follow, with many ways to the same one");
        String fifty = Bench.facts("n", 50);
        Bench bench = Bench.with(fifty + "z:-n(A),n(B),n(C).y(A):-n(A),n(B),n(C).x:-n(A),n(B),n(C),A=B,C=a.", 101);
        bench.stage("z", 1);
        bench.stage("y(49)", 1);
        bench.stage("x", -1);
        bench.load(fifty + "z(A,B,C):-n(A),n(B),n(C).", -1);
        bench.run(Bench.UNSUPPORTED);
        Bench.sentence("all different values of its variables, with many ways to the same ones");
        bench.load(fifty, -1);
        bench.run(50);
        bench.put("n(A),n(B),n(C)");
        bench.ask(Bench.UNSUPPORTED);
        bench.end(0, "nothing");
        bench.ask("n(X),n(_),n(_)", 50);
        bench.ask("n(_),n(_),n(_)", 1);
        bench.ask("n(A),n(B),n(C),A=B,C=a", 0);
        bench.ask("n(A),n(B),n(C),A=B,B=C,C=7", 1);
        bench.rows("7,7,7;");
    }

    // ---------------------------------------------------------------- promises 8 to 11

    private static void columns() {
        Bench.sentence("How many columns the rows have");
        Bench bench = Bench.with(PATHS, PATH_FACTS);
        bench.columns(0);
        bench.ask("p(X,Y), n(Z)", 24);
        bench.columns(3);
        bench.ask("p(X,_), n(_)", 3);
        bench.columns(1);
        bench.ask("n(a)", 1);
        bench.columns(0);
        bench.ask("n(A),n(B),n(C),n(D),n(E),n(F), A=B,B=C,C=D,D=E,E=F", 4);
        bench.columns(6);
        bench.ask("n(A),n(B),n(C),n(D),n(E),n(F),n(G), A=B,B=C,C=D,D=E,E=F", 16);
        bench.columns(7);
        bench.rows("a,a,a,a,a,a,a;a,a,a,a,a,a,b;a,a,a,a,a,a,c;a,a,a,a,a,a,d;"
            + "b,b,b,b,b,b,a;b,b,b,b,b,b,b;b,b,b,b,b,b,c;b,b,b,b,b,b,d;"
            + "c,c,c,c,c,c,a;c,c,c,c,c,c,b;c,c,c,c,c,c,c;c,c,c,c,c,c,d;"
            + "d,d,d,d,d,d,a;d,d,d,d,d,d,b;d,d,d,d,d,d,c;d,d,d,d,d,d,d;");
        bench = Bench.with("w(1,2,3,4,5,6).", 1);
        bench.ask("w(A,B,C,D,E,F), w(G,H,I,J,K,L)", 1);
        bench.columns(12);
        bench.load("", -1);
        bench.columns(0);
    }

    private static void isNumber() {
        Bench.sentence("Whether a row has a number in a column");
        Bench bench = Bench.with("v(0,a). v(-1,b). v(a,0). v(-2147483648,2147483647).", 4);
        bench.ask("v(X,Y)", 4);
        boolean[] first = {true, true, true, false};
        boolean[] second = {true, false, false, true};
        for (int row = 0; row < 4; row++) {
            bench.isNumber(row, 0, first[row]);
            bench.isNumber(row, 1, second[row]);
        }
    }

    private static void rowOrder() {
        Bench.sentence("Rows stand by their first column, then the second one, and so on");
        Bench bench = Bench.with("v(b,1). v(a,2). v(a,-1). v(a,b). v(ab,a). v(a,10). v(a,9). v(1,z). v(-1,z)."
            + " v(aB,z). v(a_,z). v(a1,z). v(aa,z).", 13);
        bench.ask("v(X,Y)", 13);
        bench.rows("-1,z;1,z;a,-1;a,2;a,9;a,10;a,b;a1,z;aB,z;a_,z;aa,z;ab,a;b,1;");
        bench.ask("v(X,Y), X = a", 5);
        bench.rows("a,-1;a,2;a,9;a,10;a,b;");
        bench.ask("Y = Y, v(X,Y), X = a", 5);
        bench.rows("-1,a;2,a;9,a;10,a;b,a;");
        bench = Bench.with("w(1,2,3,4,5,6). w(1,2,3,4,5,7). w(0,2,3,4,5,6).", 3);
        bench.ask("w(A,B,C,D,E,F), w(G,H,I,J,K,L), K = 5", 9);
        bench.rows("0,2,3,4,5,6,0,2,3,4,5,6;0,2,3,4,5,6,1,2,3,4,5,6;0,2,3,4,5,6,1,2,3,4,5,7;"
            + "1,2,3,4,5,6,0,2,3,4,5,6;1,2,3,4,5,6,1,2,3,4,5,6;1,2,3,4,5,6,1,2,3,4,5,7;"
            + "1,2,3,4,5,7,0,2,3,4,5,6;1,2,3,4,5,7,1,2,3,4,5,6;1,2,3,4,5,7,1,2,3,4,5,7;");
        bench = Bench.with(Bench.constants("p", "c", 1000), 200);
        bench.ask("p(c995,B,C,D,E), p(A,_,_,_,_), A <= c10", 2);
        bench.rows("c996,c997,c998,c999,c0;c996,c997,c998,c999,c10;");
    }

    private static void number() {
        Bench.sentence("The number that a row has in a column; of a name how many bytes it has");
        Bench bench = Bench.with("v(-2147483648). v(2147483647). v(abc_X9). v(0). v(a). v(-1). v(0042).", 7);
        bench.ask("v(X)", 7);
        Object[] numbers = {MIN, -1, 0, 42, MAX, 1, 6};
        for (int row = 0; row < numbers.length; row++) {
            bench.number(row, 0, numbers[row]);
            bench.isNumber(row, 0, row < 5);
        }
    }

    private static void letter() {
        Bench.sentence("Byte k of the name that a row has in a column. IndexOutOfBoundsException: there is no such "
            + "row or column, or byte, or it is a number");
        Bench bench = Bench.with("v(7,abc_X9). v(z,0).", 2);
        bench.ask("v(X,Y)", 2);
        String name = "abc_X9";
        for (int k = 0; k < name.length(); k++) {
            bench.letter(0, 1, k, (int) name.charAt(k));
        }
        bench.letter(1, 0, 0, (int) 'z');
        for (int k : new int[] {6, 7, -1, MAX, MIN}) {
            bench.letter(0, 1, k, Bench.INDEX);
        }
        bench.letter(1, 0, 1, Bench.INDEX);
        bench.letter(1, 0, -1, Bench.INDEX);
        for (int k : new int[] {0, 1, -1, 6, MAX, MIN}) {
            bench.letter(0, 0, k, Bench.INDEX);
            bench.letter(1, 1, k, Bench.INDEX);
        }
    }

    private static void noSuchCell() {
        Bench.sentence("IndexOutOfBoundsException: there is no such row or column");
        Bench bench = Bench.with("v(a,b). v(1,2). v(c,d).", 3);
        bench.noCell(0, 0);
        bench.ask("v(X,Y)", 3);
        int[][] outside = {{3, 0}, {-1, 0}, {0, 2}, {0, -1}, {3, 2}, {-1, -1}, {MIN, 0}, {MAX, 0}, {0, MAX},
            {0, MIN}, {2, 2}, {3, 1}, {MAX, MAX}, {MIN, MIN}};
        for (int[] at : outside) {
            bench.noCell(at[0], at[1]);
        }
        bench.number(2, 1, 1);
        bench.isNumber(0, 1, true);
        Bench.sentence("IndexOutOfBoundsException: the rows are those of the latest question");
        bench.ask("v(X,b)", 1);
        bench.noCell(1, 0);
        bench.noCell(0, 1);
        bench.number(0, 0, 1);
        bench.ask("v(b,X)", 0);
        bench.noCell(0, 0);
        bench.ask("v(a,b)", 1);
        bench.noCell(0, 0);
    }

    // ---------------------------------------------------------------- promises 12 to 14

    private static void stage() {
        Bench.sentence("The tape (which is empty then) is an ATOM without variables: its stage; NONE if it does "
            + "not follow");
        Bench bench = Bench.with(PATHS + " p(a,c) :- e(a,b). e(c,d) :- e(a,b).", PATH_FACTS);
        bench.stage("e(a,b)", 0);
        bench.fault(0);
        bench.end(1, Bench.ARGUMENT);
        bench.stage("e(c,d)", 0);
        bench.stage("p(a,b)", 1);
        bench.stage("p(a,c)", 1);
        bench.stage(" p ( a , d ) % so", 2);
        bench.stage("far(d,a)", 1);
        String[] not = {"p(d,a)", "p(a,x)", "p(77,a)", "x(a,b)", "x", "a", "far(a,b)"};
        for (String text : not) {
            bench.stage(text, -1);
            bench.fault(0);
            bench.end(1, Bench.ARGUMENT);
        }
        bench.load("q(-0). q(7).", -1);
        bench.run(2);
        bench.stage("q(00)", 0);
        bench.stage("q(007)", 0);
        bench.stage("q(-7)", -1);
        bench.stageRefused("q", 10, 0);
    }

    private static void stageBeforeARun() {
        Bench.sentence("stage: IllegalStateException: the program was not run");
        Bench bench = new Bench();
        bench.stage(Bench.STATE);
        bench.load("p(a).", -1);
        bench.put("p(a)");
        bench.stage(Bench.STATE);
        bench.end(5, Bench.ARGUMENT);
        bench.run(1);
        bench.stage(0);
        bench.load("p(X).", 2);
        bench.stage("p(a)", 0);
        bench.load("p(b).", -1);
        bench.put("p(");
        bench.stage(Bench.STATE);
        bench.fault(0);
    }

    private static void stratum() {
        Bench.sentence("The tape (which is empty then) is a NAME: the stratum of the program's predicate; NONE "
            + "without one; -2 less the place of its fault (1, 2)");
        Bench bench = new Bench();
        bench.stratum("p", -1);
        bench.load(PATHS, -1);
        for (int time = 0; time < 2; time++) {
            bench.stratum("p", 0);
            bench.fault(0);
            bench.end(1, Bench.ARGUMENT);
            bench.stratum(" far % x", 1);
            for (String none : new String[] {"x", "fa", "farr", "a", "nott"}) {
                bench.stratum(none, -1);
                bench.fault(0);
                bench.end(1, Bench.ARGUMENT);
            }
            bench.stratumRefused("", 2, 0);
            bench.stratumRefused("  ", 2, 2);
            bench.stratumRefused("far far", 2, 4);
            bench.stratumRefused("far(a,b)", 2, 3);
            bench.stratumRefused("far#", 1, 3);
            bench.run(PATH_FACTS);
        }
        bench.load("far.", -1);
        bench.stratum("far", 0);
        bench.stratum("p", -1);
    }

    private static void count() {
        Bench.sentence("How many: what = 0 clauses, 1 predicates, 2 constants of the program, 3 strata, 4 facts "
            + "that follow (NONE if it was not run), 5 rows, 6 the highest stage");
        Bench bench = new Bench();
        bench.load(PATHS, -1);
        bench.counts(8, 4, 4, 2, -1, 0, -1);
        bench.run(PATH_FACTS);
        bench.counts(8, 4, 4, 2, PATH_FACTS, 0, 3);
        bench.ask("p(X,Y)", 6);
        bench.counts(8, 4, 4, 2, PATH_FACTS, 6, 3);
        Bench.sentence("IllegalArgumentException: what is none of these");
        for (int what : new int[] {-1, 7, 8, MIN, MAX, 256, -7}) {
            bench.count(what, Bench.ARGUMENT);
        }
        bench.counts(8, 4, 4, 2, PATH_FACTS, 6, 3);
        new Bench().count(-1, Bench.ARGUMENT);
        new Bench().count(7, Bench.ARGUMENT);
    }

    private static void countOfNothing() {
        Bench.sentence("3 strata (one more than the highest; 0 without predicates) .. 6 the highest stage (NONE "
            + "likewise, 0 without facts)");
        Bench bench = new Bench();
        bench.load("p(a) :- q(-0, 00, b), a = 0, not r(c), d != d.", -1);
        bench.counts(1, 3, 5, 2, -1, 0, -1);
        bench.run(0);
        bench.counts(1, 3, 5, 2, 0, 0, 0);
        bench.load("p.", -1);
        bench.counts(1, 1, 0, 1, -1, 0, -1);
        bench.run(1);
        bench.counts(1, 1, 0, 1, 1, 0, 0);
        bench.load("", -1);
        bench.counts(0, 0, 0, 0, -1, 0, -1);
        bench.run(0);
        bench.counts(0, 0, 0, 0, 0, 0, 0);
    }

    private static void lastPromisedCall() {
        Bench.sentence("An object is used for at most 512 calls after it has been made");
        Bench bench = Bench.with(PATHS, PATH_FACTS);
        while (bench.callsLeft() >= 6) {
            bench.ask("p(a,X)", 3);
        }
        while (bench.callsLeft() > 3) {
            bench.letter(2, 0, 0, (int) 'd');
        }
        bench.stage("p(a,d)", 3);
        Bench.due("calls left", bench.callsLeft(), 0);
    }
}
