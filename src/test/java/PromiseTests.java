/** The promises of the document, one after the other: ordinary inputs, edges, wrong inputs. */
public final class PromiseTests {
    private static final String PATHS =
        "e(a,b). e(b,c). e(c,d).\np(X,Y) :- e(X,Y).\np(X,Z) :- p(X,Y), e(Y,Z).\n"
        + "n(X) :- e(X,_). n(X) :- e(_,X). far(X,Y) :- n(X), n(Y), not p(X,Y), X != Y.";
    private static int wrong = 0;

    private final StrataBase base = new StrataBase();

    public static void main(String[] args) {
        new PromiseTests().newObject();
        new PromiseTests().feed();
        new PromiseTests().end();
        new PromiseTests().load();
        tokens();
        grammar();
        tooMany();
        tooManyInQuestions();
        softFaults();
        faultOrder();
        new PromiseTests().fault();
        new PromiseTests().run();
        new PromiseTests().runMany();
        new PromiseTests().runOverflow();
        new PromiseTests().ask();
        new PromiseTests().askForeign();
        new PromiseTests().askFaults();
        new PromiseTests().askOverflow();
        new PromiseTests().columns();
        new PromiseTests().values();
        new PromiseTests().rowOrder();
        new PromiseTests().stage();
        new PromiseTests().stageFaults();
        new PromiseTests().stratum();
        new PromiseTests().count();
        new PromiseTests().comparisons();
        System.out.println(wrong == 0 ? "PromiseTests: all answers are as due" : wrong + " wrong");
        System.exit(wrong == 0 ? 0 : 1);
    }

    // ---------------------------------------------------------------- promises 1 to 3

    private void newObject() {
        due("new: fault", base.fault(), 0);
        due("new: columns", base.columns(), 0);
        int[] counts = {0, 0, 0, 0, -1, 0, -1};
        for (int what = 0; what < counts.length; what++) {
            due("new: count " + what, base.count(what), counts[what]);
        }
        due("new: no rows", thrownByRow(0, 0), 3);
        due("new: ask", thrownByAsk(), 1);
        due("new: stage", thrownByStage(), 1);
        due("new: end(1)", thrownByEnd(1), 2);
        due("new: end(0)", thrownByEnd(0), 0);
        due("new: run", base.run(), 0);
        due("new: facts", base.count(4), 0);
        due("new: highest stage", base.count(6), 0);
        due("new: NONE", StrataBase.NONE, -1);
    }

    private void feed() {
        due("feed", base.feed(0x702e0000, 0, 0, 0, 0), 20);
        due("feed", base.feed(0, 0, 0, 0, 0), 40);
        base.end(2);
        due("feed behind end", base.feed(0x71282d31, 0x292e2025, -1, 0x80ffff80, 0x7f7f7f7f), 22);
        due("bytes, highest first", base.load(), -1);
        due("clauses", base.count(0), 2);
        due("feed after load", base.feed(0, 0, 0, 0, 0), 20);
        base.end(16);
        for (int length = 36; length <= 65536; length += 20) {
            due("feed", base.feed(0x20202020, 0x20202020, 0x20202020, 0x20202020, 0x20202020), length);
        }
        due("feed beyond 65536", thrownByFeed(), 2);
        base.end(65517);
        due("feed beyond 65536", thrownByFeed(), 2);
        due("nothing was fed", thrownByEnd(65518), 2);
        base.end(65516);
        due("feed up to 65536", base.feed(0, 0, 0, 0, 0), 65536);
        base.end(65536);
        due("a byte 0 is no token", base.load(), 0);
        due("code", base.fault(), 1);
    }

    private void end() {
        put("p. q. r.");
        due("end(-1)", thrownByEnd(-1), 2);
        due("end(9)", thrownByEnd(9), 2);
        due("end(min)", thrownByEnd(Integer.MIN_VALUE), 2);
        due("end(max)", thrownByEnd(Integer.MAX_VALUE), 2);
        due("end(8)", thrownByEnd(8), 0);
        due("end(5)", thrownByEnd(5), 0);
        due("end(6)", thrownByEnd(6), 2);
        due("load", base.load(), -1);
        due("clauses", base.count(0), 2);
        due("the tape is empty", thrownByEnd(1), 2);
        cutBehind("p :- q.", 3, 1, 2);
        cutBehind("p :- 1 != 2.", 8, 1, 7);
        cutBehind("p :- 1 <= 2.", 8, 2, 8);
        cutBehind("p(-1).", 3, 1, 2);
        cutBehind("p(X) :- q(X), not r.", 17, 2, 17);
        cutBehind("p. % x\nq", 6, 0, -1);
        cutBehind("p(12). p(12345678901).", 19, 2, 19);
    }

    /** What stood behind the end is no longer on the tape. */
    private void cutBehind(String text, int length, int code, int place) {
        put(text);
        base.end(length);
        due(text + " up to " + length, base.load(), place);
        due("fault of " + text + " up to " + length, base.fault(), code);
    }

    // ---------------------------------------------------------------- promise 4 and the text

    private void load() {
        due("load", load(PATHS), -1);
        base.run();
        due("ask", ask("p(a,X)"), 3);
        due("a fault leaves all else", load("p(X)"), 4);
        due("code", base.fault(), 2);
        due("the tape is empty", thrownByEnd(1), 2);
        due("rows stay", base.count(5), 3);
        due("facts stay", base.count(4), 19);
        due("clauses stay", base.count(0), 8);
        due("columns stay", base.columns(), 1);
        due("a row stays", base.letter(2, 0, 0), 'd');
        due("the program stays", stage("p(a,c)"), 2);
        due("load another", load("q(1)."), -1);
        due("code", base.fault(), 0);
        due("not run", base.count(4), -1);
        due("no rows", base.count(5), 0);
        due("no columns", base.columns(), 0);
        due("no row", thrownByRow(0, 0), 3);
        due("not run: ask", thrownByAsk(), 1);
        due("clauses", base.count(0), 1);
        due("load nothing", load(""), -1);
        due("no clauses", base.count(0), 0);
        due("no predicates", base.count(1), 0);
        due("no constants", base.count(2), 0);
        due("no strata", base.count(3), 0);
        due("run nothing", base.run(), 0);
        due("load blanks", load(" \t\r\n% p.\n%"), -1);
        due("no clauses", base.count(0), 0);
    }

    private static void tokens() {
        refused("p(2147483647,-2147483648,-0,00,0000000000000000000001).", 0, -1);
        refused("p(2147483648).", 1, 2);
        refused("p(-2147483649).", 1, 2);
        refused("p(99999999999999999999999999).", 1, 2);
        refused("p(-99999999999999999999999999).", 1, 2);
        refused("p. 2147483648", 1, 3);
        refused("p. 2147483647", 2, 3);
        refused("p(-).", 1, 2);
        refused("p(- 1).", 1, 2);
        refused("p(--1).", 1, 2);
        refused("p(1a).", 2, 3);
        refused("p(1-1).", 2, 3);
        refused("p:q.", 1, 1);
        refused("p: -q.", 1, 1);
        refused("p:-q.", 0, -1);
        refused("p:--1=-1.", 0, -1);
        refused("p :- 1! = 2.", 1, 6);
        refused("p :- 1 !", 1, 7);
        refused("p :- 1 < = 2.", 2, 9);
        refused("p :- 1 <= 2, 1 >= 2, 1 < 2, 1 > 2, 1 = 2, 1 != 2.", 0, -1);
        refused("p :- 1 == 2.", 2, 8);
        refused("p :- 1 =< 2.", 2, 8);
        refused("p :- 1 => 2.", 2, 8);
        refused("p;", 1, 1);
        refused("p\u00e4.", 1, 1);
        refused("\u000bp.", 1, 0);
        refused("\fp.", 1, 0);
        refused("p\u0000.", 1, 1);
        refused("p.%", 0, -1);
        refused("p.% :- q\r#\nq", 2, 12);
        refused("p % x\n. % y", 0, -1);
        refused("notp. no. nott. not_. p:-not notp.", 0, -1);
        refused("not.", 2, 0);
        refused("p(not).", 2, 2);
        refused("aZ_09(bZ_09) :- q(_Z09, Z_9, _, __), bZ=_Z09.", 0, -1);
        refused("_p.", 2, 0);
        refused("P.", 2, 0);
        refused("1.", 2, 0);
    }

    private static void grammar() {
        refused("p", 2, 1);
        refused("p  ", 2, 3);
        refused("p %x", 2, 4);
        refused("p q.", 2, 2);
        refused("p(", 2, 2);
        refused("p().", 2, 2);
        refused("p(a", 2, 3);
        refused("p(a,", 2, 4);
        refused("p(a,).", 2, 4);
        refused("p(a b).", 2, 4);
        refused("p(a(b)).", 2, 3);
        refused("p(a)) .", 2, 4);
        refused("p(a).)", 2, 5);
        refused("p..", 2, 2);
        refused("p,q.", 2, 1);
        refused("p = q.", 2, 2);
        refused("not p.", 2, 0);
        refused("p :- .", 2, 5);
        refused("p :-", 2, 4);
        refused("p :- q", 2, 6);
        refused("p :- q,", 2, 7);
        refused("p :- q,.", 2, 7);
        refused("p :- q r.", 2, 7);
        refused("p :- q :- r.", 2, 7);
        refused("p :- not.", 2, 8);
        refused("p :- not not q.", 2, 9);
        refused("p :- not X.", 2, 9);
        refused("p :- not 1 = 1.", 2, 9);
        refused("p :- not a = b.", 2, 11);
        refused("p :- X.", 2, 6);
        refused("p :- 1.", 2, 6);
        refused("p :- 1, q.", 2, 6);
        refused("p :- a = .", 2, 9);
        refused("p :- a = b = c.", 2, 11);
        refused("p :- a = not.", 2, 9);
        refused("p :- a = q(b).", 2, 10);
        refused("p :- q(b) = a.", 2, 10);
        refused("p :- = a.", 2, 5);
        refused("p :- (q).", 2, 5);
        refused("p :- q(X), X = a, a < X, 1 <= X, X != b, not r(X), not s.", 0, -1);
        refused(":- p.", 2, 0);
        refused("p(a). . q.", 2, 6);
    }

    private static void tooMany() {
        refused("p(a,b,c,d,e,f).", 0, -1);
        refused("p(a,b,c,d,e,f,g).", 3, 14);
        refused("p(a,b,c,d,e,f,X).", 3, 14);
        refused("p(a,b,c,d,e,f,).", 2, 14);
        refused("p(a,b,c,d,e,f,2147483648).", 1, 14);
        refused("p :- q(A,B,C,D,E,F,G).", 3, 19);

        String twelve = "p :- " + repeat("q,", 11) + "q";
        refused(twelve + ".", 0, -1);
        refused(twelve + ",q.", 3, 29);
        refused(twelve + ",not q.", 3, 29);
        refused(twelve + ",1=1.", 3, 29);
        refused(twelve + ",X=1.", 3, 29);
        refused(twelve + ",a=1.", 3, 29);
        refused(twelve + ",a#", 3, 29);
        refused(twelve + ",.", 2, 29);
        refused(twelve + ",#", 1, 29);

        String sixes = "p :- q(A,B,C,D,E,F), q(G,H,I,J,K,L)";
        refused(sixes + ", q(A,B,C,D,E,F).", 0, -1);
        refused(sixes + ", r(A,M).", 3, 41);
        refused(sixes + ", r(_).", 3, 39);
        refused(sixes + ", M = A.", 3, 37);
        refused(sixes + ", A = M.", 3, 41);
        refused("p :- q(_,_,_,_,_,_), q(_,_,_,_,_,_).", 0, -1);
        refused("p :- q(_,_,_,_,_,_), q(_,_,_,_,_,_), r(_).", 3, 39);
        refused("p(A) :- q(B,C,D,E,F,G), q(H,I,J,K,L,A).", 0, -1);
        refused("p(A) :- q(B,C,D,E,F,G), q(H,I,J,K,L,M).", 3, 36);

        refused(repeat("p.", 256), 0, -1);
        refused(repeat("p.", 256) + "p.", 3, 512);
        refused(repeat("p.", 256) + " q", 3, 513);
        refused(repeat("p.", 256) + ".", 2, 512);
        refused(repeat("p.", 256) + "-", 1, 512);
        refused(repeat("p.", 256) + "%p.", 0, -1);

        String most = numbered("p", 0, 64, ".");
        refused(most, 0, -1);
        refused(most + "p0(a).", 10, most.length());
        refused(most + "x.", 3, most.length());
        refused(most + "x#", 3, most.length());
        refused(most + "p0:-x.", 3, most.length() + 4);
        refused(most + "p0:-x#", 3, most.length() + 4);
        refused(most + "p0:-x=1.", 0, -1);
        refused(most + "p0:-x=#", 1, most.length() + 6);
        refused(most + "p0:-not x.", 3, most.length() + 8);

        StringBuilder thousand = new StringBuilder();
        for (int i = 0; i < 200; i++) {
            thousand.append("p(").append(numbered("", 5 * i, 5 * i + 4, ",")).append(5 * i + 4).append(").");
        }
        int full = thousand.length();
        refused(thousand.toString(), 0, -1);
        refused(thousand + "p(0,-0,000,07,999).", 0, -1);
        refused(thousand + "p(0,-0,1000).", 3, full + 7);
        refused(thousand + "p(0,a).", 3, full + 4);
        refused(thousand + "p(a,#", 3, full + 2);
        refused(thousand + "q:-a.", 0, -1);
        refused(thousand + "q:-a=1.", 3, full + 3);
        refused(thousand + "q:-a=#", 3, full + 3);
        refused(thousand + "q:-a#", 1, full + 4);
        refused(thousand + "q:-1=a.", 3, full + 5);
        refused(thousand + "q:-1000=a.", 3, full + 3);
    }

    private static void tooManyInQuestions() {
        StringBuilder names = new StringBuilder();
        PromiseTests test = new PromiseTests();
        due("load", test.load(numbered("p", 0, 64, ".") + "p0:-1=1."), -1);
        test.base.run();
        due("predicates, however many", test.ask("p0,not a,not b,not c,not d"), 1);
        for (int i = 0; i < 1001; i++) {
            names.append(i % 6 == 0 ? i == 0 ? "not q(" : ",not q(" : ",").append("c").append(i);
            names.append(i % 6 == 5 ? ")" : "");
        }
        due("LITERALs", test.ask(repeat("p0,", 11) + "p0"), 1);
        due("LITERALs", test.ask(repeat("p0,", 12) + "p0"), -37);
        due("code", test.base.fault(), 3);
        due("LITERALs, at once", test.ask(names.toString()) < -1 ? 1 : 0, 1);
        due("TERMs", test.ask("z(A,B,C,D,E,F)"), 0);
        due("TERMs", test.ask("z(A,B,C,D,E,F,g)"), -15);
        due("code", test.base.fault(), 3);
        due("VARIABLEs", test.ask("z(A,B,C,D,E,F),z(G,H,I,J,K,L)"), 0);
        due("columns", test.base.columns(), 12);
        due("VARIABLEs", test.ask("z(A,B,C,D,E,F),z(G,H,I,J,K,L),y(A,_)"), -35);
        due("code", test.base.fault(), 3);
    }

    private static void softFaults() {
        refused("p(a). p(a,b).", 10, 6);
        refused("p. p(a).", 10, 3);
        refused("p(a). q :- p.", 10, 11);
        refused("p(a). q :- not p.", 10, 15);
        refused("q :- p(X,X), p(X).", 10, 13);
        refused("p(p,p). p(p) :- p(p).", 10, 8);
        refused("p(X).", 11, 2);
        refused("p(a,_).", 11, 4);
        refused("p(X,Y) :- q(X).", 11, 4);
        refused("p(X,X) :- not q(X).", 11, 2);
        refused("p(a) :- not q(X).", 11, 14);
        refused("p(a) :- q(X), not q(_).", 11, 20);
        refused("p :- X = 1.", 11, 5);
        refused("p :- q(X), X = Y.", 11, 15);
        refused("p :- q(X), _ = X.", 11, 11);
        refused("p(X) :- X = 1, q(X).", 0, -1);
        refused("p(X) :- not r(X), X < Y, q(X,Y).", 0, -1);
        refused("p(_) :- q(_).", 11, 2);
        refused("p :- not p.", 12, 5);
        refused("p :- q, not r. r :- p.", 12, 8);
        refused("p :- not q. q :- r. r :- not s, not p.", 12, 5);
        refused("p(a). p(X) :- q(X), not r(X). r(X) :- s(X). s(X) :- p(X).", 12, 20);
        refused("p :- not q. q :- not r. r :- q.", 12, 17);
        refused("p :- not q. q :- not r. r :- s.", 0, -1);
        refused("p :- p, not q. q :- q.", 0, -1);
    }

    private static void faultOrder() {
        refused("p(X). p. #", 1, 9);
        refused("p(X). p. :-", 2, 9);
        refused("p(X). p. q(a,b,c,d,e,f,g).", 3, 23);
        refused("p(a). p. q(X).", 10, 6);
        refused("p(a). q(X). p.", 11, 8);
        refused("p(X) :- p(Y,Z), r.", 11, 2);
        refused("p :- q(Y), q, X = Y.", 10, 11);
        refused("p :- not p. q(X).", 11, 14);
        refused("p :- not p. p(a).", 10, 12);
        refused("p :- not p. :-", 2, 12);
        refused("p( ). #", 2, 3);
        refused("# p( ).", 1, 0);
    }

    // ---------------------------------------------------------------- promises 5 and 6

    private void fault() {
        due("none yet", base.fault(), 0);
        load("p(X).");
        due("of load", base.fault(), 11);
        base.run();
        base.count(0);
        due("run does not change it", base.fault(), 11);
        due("stratum", stratum("1"), -2);
        due("of stratum", base.fault(), 2);
        due("stratum", stratum("a"), -1);
        due("none", base.fault(), 0);
        due("ask", ask("p(#"), -3);
        due("of ask", base.fault(), 1);
        due("stage", stage("p(X)"), -4);
        due("of stage", base.fault(), 2);
        load("p.");
        due("none", base.fault(), 0);
        load("p. p(a).");
        due("of load", base.fault(), 10);
        put("p(");
        due("ask that throws", thrownByAsk(), 1);
        due("stage that throws", thrownByStage(), 1);
        due("changes nothing", base.fault(), 10);
        due("nor the tape", thrownByEnd(2), 0);
        due("load", base.load(), 2);
    }

    private void run() {
        load(PATHS);
        due("run", base.run(), 19);
        due("facts", base.count(4), 19);
        ask("p(X,Y)");
        due("run again", base.run(), 19);
        due("rows stay", base.count(5), 6);
        load("a. b :- a. c :- not b. d :- not c. e :- d, b, not f.");
        due("run", base.run(), 4);
        load("p(1). p(01). p(1) :- p(1). q :- 1 < 2. r :- 2 < 1. s :- not r.");
        due("each fact once", base.run(), 3);
        load("p(X) :- p(X). q :- p(_).");
        due("nothing follows", base.run(), 0);
        load("e(1,2). e(2,3). e(3,1). t(X,Y) :- e(X,Y). t(X,Z) :- t(X,Y), t(Y,Z).");
        due("a ring", base.run(), 12);
        load("n(1). n(2). n(3). lt(X,Y) :- n(X), n(Y), X < Y. least(X) :- n(X), not above(X)."
            + " above(Y) :- lt(X,Y).");
        due("negation", base.run(), 3 + 3 + 1 + 2);
        due("least", ask("least(X)"), 1);
        due("least", base.number(0, 0), 1);
    }

    /** Many facts, so that what is kept to find them has to grow and to be made anew. */
    private void runMany() {
        StringBuilder chain = new StringBuilder();
        for (int i = 0; i < 140; i++) {
            chain.append("e(").append(i).append(',').append(i + 1).append(").");
        }
        String[] rules = {"t(X,Z):-t(X,Y),t(Y,Z).", "t(X,Z):-t(X,Y),e(Y,Z).", "t(X,Z):-e(X,Y),t(Y,Z).",
            "t(X,Z):-t(X,Y),t(Y,Z),not z(X). t(X,Z):-e(X,Y),t(Y,Z),t(X,Y). z(a)."};
        int[] stages = {9, 140, 140, 9};
        for (int i = 0; i < rules.length; i++) {
            load(chain + "t(X,Y):-e(X,Y)." + rules[i] + "back(X,Y):-t(Y,X),not t(X,Y).");
            due(rules[i], base.run(), i == 3 ? 19881 : 19880);
            due(rules[i] + " stages", base.count(6), stages[i]);
            due(rules[i] + " stage", stage("t(0,140)"), stages[i]);
            due(rules[i] + " between", ask("t(0,X),t(X,Y),t(Y,50),back(50,X)"), 1176);
            due(rules[i] + " ends", ask("t(X,Y),back(Y,Z),t(Z,W),W=2,Y=140"), 280);
            due(rules[i] + " all", ask("t(X,_),t(_,X),back(X,_),back(_,X),t(_,_),back(_,_)"), 139);
        }
    }

    private void runOverflow() {
        String hundred = facts("n", 100);
        String pairs = " d(X,Y) :- n(X), n(Y). f(X,Y) :- n(X), n(Y), X != Y.";
        due("load", load(hundred + pairs), -1);
        due("20000 facts", base.run(), 20000);
        due("ask", ask("d(1,X)"), 100);
        due("load", load(hundred + pairs + " z."), -1);
        due("20001 facts", thrownByRun(), 2);
        due("not run", base.count(4), -1);
        due("not run", base.count(6), -1);
        due("20001 facts again", thrownByRun(), 2);
        due("ask", thrownByAsk(), 1);
        due("stage", thrownByStage(), 1);
        put("d");
        due("stratum", base.stratum(), 0);
        due("load", load(hundred + pairs + " z :- not y. y :- not z2."), -1);
        due("20001 facts, in the third stratum", thrownByRun(), 2);
        due("load another", load("p."), -1);
        due("run", base.run(), 1);
        due("load", load(facts("n", 28) + "d(X,Y,Z) :- n(X), n(Y), n(Z)."), -1);
        due("many more", thrownByRun(), 2);
        load("n(0,1). n(1,2). n(2,3). n(3,4). n(4,5). n(5,6). n(6,7). n(7,8). n(8,9). c(0,0,0,0)."
            + " c(A,B,C,E) :- c(A,B,C,D), n(D,E). c(A,B,D,0) :- c(A,B,C,9), n(C,D)."
            + " c(A,C,0,0) :- c(A,B,9,9), n(B,C). c(B,0,0,0) :- c(A,9,9,9), n(A,B).");
        due("a counter", base.run(), 10009);
        due("its stages", base.count(6), 9999);
        due("a stage", stage("c(4,3,2,1)"), 4321);
    }

    // ---------------------------------------------------------------- promises 7 to 11

    private void ask() {
        load(PATHS);
        base.run();
        due("rows", ask("p(X,Y)"), 6);
        due("rows", rowsText(), "a,b;a,c;a,d;b,c;b,d;c,d;");
        due("the tape is empty", thrownByEnd(1), 2);
        due("rows", ask("p(a , X), % what\n not e(X,d)"), 2);
        due("rows", rowsText(), "b;d;");
        due("by first standing", ask("Y != b, p(X,Y), e(Y,Z)"), 2);
        due("rows", rowsText(), "c,a,d;c,b,d;");
        due("_ has no column", ask("e(_,X), e(X,_)"), 2);
        due("rows", rowsText(), "b;c;");
        due("_ alone", ask("p(_,_)"), 1);
        due("columns", base.columns(), 0);
        due("no such", ask("p(_,a)"), 0);
        due("so", ask("p(a,d)"), 1);
        due("not so", ask("p(d,a)"), 0);
        due("so", ask("not p(d,a)"), 1);
        due("not so", ask("not p(a,d)"), 0);
        due("so", ask("1 < 2"), 1);
        due("not so", ask("2 < 1"), 0);
        due("far", ask("far(X,Y), X < Y"), 0);
        due("far", ask("far(a,_)"), 0);
        due("far", ask("far(d,X)"), 3);
        due("same variable twice", ask("p(X,X)"), 0);
        due("many atoms", ask("p(A,B),p(B,C),p(C,D)"), 1);
        due("rows", rowsText(), "a,b,c,d;");
        load("m(1,1). m(1,2). m(2,2). m(3,1).");
        base.run();
        due("same variable twice", ask("m(X,X)"), 2);
        due("each row once", ask("m(X,_)"), 3);
        due("each row once", ask("m(X,_), m(_,Y)"), 6);
        due("loop", ask("m(X,Y), m(Y,X), X <= Y"), 2);
    }

    private void askForeign() {
        load("p(a). p(c). p(3). p(5).");
        base.run();
        due("no such predicate", ask("q(X)"), 0);
        due("columns", base.columns(), 1);
        due("no such predicate", ask("p(X), not q(X)"), 4);
        due("no such predicate", ask("p(X), not q(X), not q(b)"), 4);
        due("no such constant", ask("p(b)"), 0);
        due("no such constant", ask("p(X), not p(b), not p(7)"), 4);
        due("between", ask("p(X), X < b"), 3);
        due("between", ask("p(X), X > b"), 1);
        due("between", ask("p(X), b > X, 4 < X"), 2);
        due("between", ask("p(X), X <= 4"), 1);
        due("between", ask("p(X), X >= 4"), 3);
        due("never the same", ask("p(X), X = 4"), 0);
        due("never the same", ask("p(X), X != 4"), 4);
        due("below all", ask("p(X), X < -9"), 0);
        due("above all", ask("p(X), X < zz"), 4);
        due("two of them", ask("b < bb"), 1);
        due("two of them", ask("bb < b"), 0);
        due("two of them", ask("b = bb"), 0);
        due("two of them", ask("b != bb"), 1);
        due("two of them", ask("b = b"), 1);
        due("two of them", ask("4 < 04"), 0);
        due("two of them", ask("4 = 04, -0 = 0"), 1);
        due("two of them", ask("9 < 10, 10 < b, zz > 2147483647, -2147483648 < -1"), 1);
        due("mixed", ask("a < b, b < c, 3 < 4, 4 < a, c > 4, c = c"), 1);
        due("the program's constants stay", base.count(2), 4);
        due("the program's predicates stay", base.count(1), 1);
        due("sizes of its own", ask("q(X), q(X,Y)"), -7);
        due("code", base.fault(), 10);
        due("sizes of its own are forgotten", ask("q(X,Y)"), 0);
    }

    private void askFaults() {
        load(PATHS);
        base.run();
        due("rows", ask("e(a,X)"), 1);
        asked("", 2, 0);
        asked("  ", 2, 2);
        asked("% x", 2, 3);
        asked("e(X,Y).", 2, 6);
        asked("e(X,Y), ", 2, 8);
        asked("e(X,Y) e(Y,X)", 2, 7);
        asked("n(a) :- n(b)", 2, 5);
        asked("X", 2, 1);
        asked("e(X,Y), X < ", 2, 12);
        asked("e(X,@)", 1, 4);
        asked("n(2147483648)", 1, 2);
        asked("e(X)", 10, 0);
        asked("n(X), not e", 10, 10);
        asked("n(X), X < Y", 11, 10);
        asked("n(X), not e(X,Y)", 11, 14);
        asked("n(X), not e(X,_)", 11, 14);
        asked("X = 1", 11, 0);
        asked("X = Y, n(X,Y)", 10, 7);
        asked("n(X,Y), Z = 1", 10, 0);
        asked("Z = 1, n(X,Y)", 11, 0);
        asked("n(X,Y), Z = 1, ?", 1, 15);
        asked("n, n(a), ,", 2, 9);
        due("rows stay", base.count(5), 1);
        due("columns stay", base.columns(), 1);
        due("a row stays", base.letter(0, 0, 0), 'b');
    }

    private void asked(String text, int code, int place) {
        due("ask " + text, ask(text), -1 - place);
        due("fault of " + text, base.fault(), code);
        due("tape after " + text, thrownByEnd(1), 2);
    }

    private void askOverflow() {
        load(facts("n", 100) + facts("m", 50) + " z(1).");
        base.run();
        due("5000 rows", ask("n(X), m(Y)"), 5000);
        due("last row", base.number(4999, 0), 99);
        due("last row", base.number(4999, 1), 49);
        due("first row", base.number(0, 1), 0);
        put("n(X), n(Y), X <= Y");
        due("5050 rows", thrownByAsk(), 2);
        due("rows stay", base.count(5), 5000);
        due("the last one too", base.number(4999, 1), 49);
        due("the fault stays", base.fault(), 0);
        due("the tape stays", thrownByEnd(18), 0);
        due("again", thrownByAsk(), 2);
        due("the tape stays", thrownByEnd(16), 0);
        due("a part of it", base.ask(), -17);
        put("n(X), n(Y), X < Y");
        due("4950 rows", base.ask(), 4950);
        due("more than many", ask("n(X), n(_), n(Y), n(_), m(_), n(_), X = Y"), 100);
    }

    private void columns() {
        due("none", base.columns(), 0);
        load(PATHS);
        base.run();
        due("none", base.columns(), 0);
        ask("p(X,Y), n(Z)");
        due("three", base.columns(), 3);
        ask("p(X,a)");
        due("one, without rows", base.columns(), 1);
        due("no row", thrownByRow(0, 0), 3);
        ask("n(a)");
        due("none", base.columns(), 0);
        due("one row", base.count(5), 1);
        due("no column", thrownByRow(0, 0), 3);
        ask("p(X,X2), _ = X");
        due("they stay", base.columns(), 0);
    }

    private void values() {
        load("v(-2147483648). v(2147483647). v(abc_X9). v(0). v(a).");
        base.run();
        due("rows", ask("v(X)"), 5);
        due("rows", rowsText(), "-2147483648;0;2147483647;a;abc_X9;");
        due("isNumber", base.isNumber(0, 0) ? 1 : 0, 1);
        due("isNumber", base.isNumber(4, 0) ? 1 : 0, 0);
        due("number", base.number(0, 0), Integer.MIN_VALUE);
        due("number", base.number(2, 0), Integer.MAX_VALUE);
        due("a name's bytes", base.number(4, 0), 6);
        due("letter", base.letter(4, 0, 0), 'a');
        due("letter", base.letter(4, 0, 3), '_');
        due("letter", base.letter(4, 0, 5), '9');
        due("no byte", thrownByLetter(4, 0, 6), 3);
        due("no byte", thrownByLetter(4, 0, -1), 3);
        due("no byte", thrownByLetter(4, 0, Integer.MAX_VALUE), 3);
        due("of a number", thrownByLetter(0, 0, 0), 3);
        int[][] outside = {{5, 0}, {-1, 0}, {0, 1}, {0, -1}, {5, 1}, {Integer.MIN_VALUE, 0},
            {Integer.MAX_VALUE, 0}, {0, Integer.MAX_VALUE}, {0, Integer.MIN_VALUE}};
        for (int[] at : outside) {
            due("row " + at[0] + " column " + at[1], thrownByRow(at[0], at[1]), 3);
        }
    }

    private void rowOrder() {
        load("v(b,1). v(a,2). v(a,-1). v(a,b). v(ab,a). v(a,10). v(a,9). v(1,z). v(-1,z). v(aB,z)."
            + " v(a_,z). v(a1,z). v(aa,z).");
        base.run();
        due("rows", ask("v(X,Y)"), 13);
        due("rows", rowsText(),
            "-1,z;1,z;a,-1;a,2;a,9;a,10;a,b;a1,z;aB,z;a_,z;aa,z;ab,a;b,1;");
        due("rows", ask("v(X,Y), X = a"), 5);
        due("other order", ask("Y = Y, v(X,Y), X = a"), 5);
        due("rows", rowsText(), "-1,a;2,a;9,a;10,a;b,a;");
        load("w(1,2,3,4,5,6). w(1,2,3,4,5,7). w(0,2,3,4,5,6).");
        base.run();
        due("twelve columns", ask("w(A,B,C,D,E,F), w(G,H,I,J,K,L)"), 9);
        due("rows", rowsText(),
            "0,2,3,4,5,6,0,2,3,4,5,6;0,2,3,4,5,6,1,2,3,4,5,6;0,2,3,4,5,6,1,2,3,4,5,7;"
            + "1,2,3,4,5,6,0,2,3,4,5,6;1,2,3,4,5,6,1,2,3,4,5,6;1,2,3,4,5,6,1,2,3,4,5,7;"
            + "1,2,3,4,5,7,0,2,3,4,5,6;1,2,3,4,5,7,1,2,3,4,5,6;1,2,3,4,5,7,1,2,3,4,5,7;");
    }

    // ---------------------------------------------------------------- promises 12 to 14

    private void stage() {
        due("not run", thrownByStage(), 1);
        load(PATHS + " p(a,c) :- e(a,b). e(c,d) :- e(a,b).");
        due("not run", thrownByStage(), 1);
        base.run();
        due("a clause without body", stage("e(a,b)"), 0);
        due("both", stage("e(c,d)"), 0);
        due("from stage 0 of the same stratum", stage("p(a,b)"), 1);
        due("the least", stage("p(a,c)"), 1);
        due("later", stage(" p ( a , d ) % so"), 2);
        due("later", stage("p(b,d)"), 2);
        due("from lower strata alone", stage("far(d,a)"), 1);
        due("does not follow", stage("p(d,a)"), -1);
        due("no fault", base.fault(), 0);
        due("no such constant", stage("p(a,x)"), -1);
        due("no such constant", stage("p(77,a)"), -1);
        due("no such predicate", stage("x(a,b)"), -1);
        due("no such predicate", stage("x"), -1);
        due("the tape is empty", thrownByEnd(1), 2);
        load("a. b :- a. c :- b, not z. d :- c. d :- not y, a. f :- d. g :- f, c. h :- not x, b.");
        base.run();
        due("a", stage("a"), 0);
        due("b", stage("b"), 1);
        due("c", stage("c"), 1);
        due("d", stage("d"), 1);
        due("f", stage("f"), 2);
        due("g", stage("g"), 3);
        due("h", stage("h"), 1);
        due("z", stage("z"), -1);
        load("q(-0). q(7).");
        base.run();
        due("by value", stage("q(00)"), 0);
        due("by value", stage("q(007)"), 0);
        due("by value", stage("q(-7)"), -1);
    }

    private void stageFaults() {
        load(PATHS);
        base.run();
        staged("", 2, 0);
        staged(" ", 2, 1);
        staged("p(a,b).", 2, 6);
        staged("p(a,b", 2, 5);
        staged("p(a,X)", 2, 4);
        staged("p(_,a)", 2, 2);
        staged("X", 2, 0);
        staged("1", 2, 0);
        staged("not p(a,b)", 2, 0);
        staged("a = a", 2, 2);
        staged("p(a,b), p(a,b)", 2, 6);
        staged("p(a,b) p", 2, 7);
        staged("p()", 2, 2);
        staged("p(a,2147483648)", 1, 4);
        staged("p(a,b)#", 1, 6);
        staged("p(a,b,c,d,e,f,g)", 3, 14);
        staged("x(a,b,c,d,e,f,g)", 3, 14);
        staged("p(a,b,c,d,e,f,X)", 2, 14);
        staged("p(a)", 10, 0);
        staged(" p", 10, 1);
        staged("p(a) q", 2, 5);
        staged("p(a,b,c,d,e,f)", 10, 0);
        staged("p(x)", 10, 0);
    }

    private void staged(String text, int code, int place) {
        due("stage " + text, stage(text), -2 - place);
        due("fault of " + text, base.fault(), code);
        due("tape after " + text, thrownByEnd(1), 2);
    }

    private void stratum() {
        due("of no program", stratum("p"), -1);
        load(PATHS);
        due("not run", stratum("p"), 0);
        due("far", stratum(" far % x"), 1);
        due("e", stratum("e"), 0);
        due("none", stratum("x"), -1);
        due("none", stratum("fa"), -1);
        due("none", stratum("farr"), -1);
        due("a constant is none", stratum("a"), -1);
        due("no fault", base.fault(), 0);
        String[] texts = {"", "  ", "X", "1", "not", "far far", "far(a)", "far.", "#", "far#", "_"};
        int[] codes = {2, 2, 2, 2, 2, 2, 2, 2, 1, 1, 2};
        int[] places = {0, 2, 0, 0, 0, 4, 3, 3, 0, 3, 0};
        for (int i = 0; i < texts.length; i++) {
            due("stratum " + texts[i], stratum(texts[i]), -2 - places[i]);
            due("fault of " + texts[i], base.fault(), codes[i]);
            due("tape after " + texts[i], thrownByEnd(1), 2);
        }
        load("a :- b, not c. c :- d, not e. e :- f. g :- a. h :- g, not a. i :- h, g. b :- i2, i2.");
        String names = "abcdefghi";
        int[] strata = {2, 0, 1, 0, 0, 0, 2, 3, 3};
        for (int i = 0; i < names.length(); i++) {
            due("stratum " + names.charAt(i), stratum(names.substring(i, i + 1)), strata[i]);
        }
        due("strata", base.count(3), 4);
        StringBuilder chain = new StringBuilder();
        for (int i = 63; i > 0; i--) {
            chain.append("p").append(i).append(" :- not p").append(i - 1).append(". ");
        }
        due("load", load(chain.toString()), -1);
        due("the highest", stratum("p63"), 63);
        due("strata", base.count(3), 64);
        due("every second one follows", base.run(), 32);
    }

    private void count() {
        load(PATHS);
        int[] loaded = {8, 4, 4, 2, -1, 0, -1};
        int[] asked = {8, 4, 4, 2, 19, 6, 3};
        for (int what = 0; what < loaded.length; what++) {
            due("count " + what, base.count(what), loaded[what]);
        }
        base.run();
        ask("p(X,Y)");
        for (int what = 0; what < asked.length; what++) {
            due("count " + what, base.count(what), asked[what]);
        }
        int[] none = {-1, 7, Integer.MIN_VALUE, Integer.MAX_VALUE};
        for (int what : none) {
            due("count " + what, thrownByCount(what), 2);
        }
        load("p(a) :- q(-0, 00, b), a = 0, not r(c), d != d.");
        due("predicates", base.count(1), 3);
        due("constants", base.count(2), 5);
        due("strata", base.count(3), 2);
        base.run();
        due("facts", base.count(4), 0);
        due("highest stage", base.count(6), 0);
    }

    private void comparisons() {
        load("v(-1). v(2). v(10). v(a). v(ab). v(b).");
        base.run();
        String[] signs = {"=", "!=", "<", "<=", ">", ">="};
        int[] rows = {6, 30, 15, 21, 15, 21};
        int[] besideAb = {1, 5, 4, 5, 1, 2};
        for (int i = 0; i < signs.length; i++) {
            due("X " + signs[i] + " Y", ask("v(X), v(Y), X" + signs[i] + "Y"), rows[i]);
            due("X " + signs[i] + " ab", ask("v(X), X" + signs[i] + "ab"), besideAb[i]);
            due("ab " + signs[5 - i] + " X", ask("v(X), not v(c), ab " + signs[i] + " X"),
                new int[] {1, 5, 1, 2, 4, 5}[i]);
        }
        load("v(1). v(a). lt :- 1 < a. eq :- a = a. ne :- a != a. ge(X) :- v(X), X >= z. gt :- b > aa.");
        due("in a program", base.run(), 5);
    }

    // ---------------------------------------------------------------- helpers

    private static void refused(String text, int code, int place) {
        PromiseTests test = new PromiseTests();
        String shown = text.length() > 60 ? ".." + text.substring(text.length() - 60) : text;
        due("load " + shown, test.load(text), place);
        due("fault of " + shown, test.base.fault(), code);
        due("tape after " + shown, test.thrownByEnd(1), 2);
    }

    private static String repeat(String text, int times) {
        return text.repeat(times);
    }

    private static String numbered(String before, int from, int to, String behind) {
        StringBuilder out = new StringBuilder();
        for (int i = from; i < to; i++) {
            out.append(before).append(i).append(behind);
        }
        return out.toString();
    }

    private static String facts(String name, int amount) {
        return numbered(name + "(", 0, amount, ").");
    }

    private void put(String text) {
        int[] words = new int[5];
        for (int from = 0; from < text.length(); from += 20) {
            for (int w = 0; w < 5; w++) {
                words[w] = 0;
                for (int k = 0; k < 4; k++) {
                    int at = from + 4 * w + k;
                    words[w] = words[w] << 8 | (at < text.length() ? text.charAt(at) & 255 : 0);
                }
            }
            base.feed(words[0], words[1], words[2], words[3], words[4]);
        }
        base.end(text.length());
    }

    private int load(String text) {
        put(text);
        return base.load();
    }

    private int ask(String text) {
        put(text);
        return base.ask();
    }

    private int stage(String text) {
        put(text);
        return base.stage();
    }

    private int stratum(String text) {
        put(text);
        return base.stratum();
    }

    private String rowsText() {
        StringBuilder out = new StringBuilder();
        for (int row = 0; row < base.count(5); row++) {
            for (int column = 0; column < base.columns(); column++) {
                out.append(column > 0 ? "," : "");
                if (base.isNumber(row, column)) {
                    out.append(base.number(row, column));
                } else {
                    for (int k = 0; k < base.number(row, column); k++) {
                        out.append((char) base.letter(row, column, k));
                    }
                }
            }
            out.append(';');
        }
        return out.toString();
    }

    /** 0 for nothing, 1 IllegalStateException, 2 the other named one, 3 IndexOutOfBounds. */
    private int thrownBy(Runnable call) {
        try {
            call.run();
        } catch (IllegalStateException e) {
            return 1;
        } catch (UnsupportedOperationException | IllegalArgumentException e) {
            return 2;
        } catch (IndexOutOfBoundsException e) {
            return e.getClass() == IndexOutOfBoundsException.class ? 3 : 4;
        }
        return 0;
    }

    private int thrownByFeed() {
        return thrownBy(() -> base.feed(0, 0, 0, 0, 0));
    }

    private int thrownByEnd(int n) {
        return thrownBy(() -> base.end(n));
    }

    private int thrownByRun() {
        return thrownBy(() -> base.run());
    }

    private int thrownByAsk() {
        return thrownBy(() -> base.ask());
    }

    private int thrownByStage() {
        return thrownBy(() -> base.stage());
    }

    private int thrownByCount(int what) {
        return thrownBy(() -> base.count(what));
    }

    private int thrownByLetter(int row, int column, int k) {
        return thrownBy(() -> base.letter(row, column, k));
    }

    /** All three methods that name a row and a column throw alike. */
    private int thrownByRow(int row, int column) {
        int first = thrownBy(() -> base.isNumber(row, column));
        int second = thrownBy(() -> base.number(row, column));
        int third = thrownByLetter(row, column, 0);
        return first == second && second == third ? first : 9;
    }

    private static void due(String what, long got, long want) {
        if (got != want) {
            wrong++;
            System.out.println(what + " answered " + got + ", due is " + want);
        }
    }

    private static void due(String what, String got, String want) {
        if (!got.equals(want)) {
            wrong++;
            System.out.println(what + " answered " + got + ", due is " + want);
        }
    }
}
