/** What follows: the order of constants, strata, negation, and the stages of facts. */
public final class FollowTests {
    public static void main(String[] args) {
        Bench.watch();
        numbersBeforeNames();
        namesByteByByte();
        comparisons();
        comparisonsOfConstantsAlone();
        comparisonsWithOtherConstants();
        strata();
        strataOfAChain();
        clausesWithoutABody();
        oneMoreThanTheGreatest();
        factsOfTheSameStage();
        lowerStrataCountNothing();
        theLeastStage();
        factsThatFollow();
        noneThatFollows();
        eachFactOnce();
        longChains();
        Bench.finish("FollowTests");
    }

    // ---------------------------------------------------------------- constants

    private static void numbersBeforeNames() {
        Bench.sentence("numbers are by their value, before all names");
        Bench bench = Bench.with("v(10). v(9). v(-2147483648). v(a). v(0). v(-1). v(-10). v(2147483647)."
            + " v(zz). v(a0). v(007). v(-2).", 12);
        bench.ask("v(X)", 12);
        bench.rows("-2147483648;-10;-2;-1;0;7;9;10;2147483647;a;a0;zz;");
        bench.ask("v(X), X < a", 9);
        bench.ask("v(X), X >= a", 3);
        bench.ask("v(X), X > 2147483647", 3);
        bench.ask("v(X), X <= -2147483648", 1);
        bench.ask("v(X), X < -2147483648", 0);
        bench.ask("v(X), X > -2147483648, X < 2147483647", 7);
    }

    private static void namesByteByByte() {
        Bench.sentence("these byte by byte (a beginning before what goes on)");
        Bench bench = Bench.with("v(b). v(ab). v(a). v(a9). v(aZ). v(a_). v(aa). v(a0). v(aA). v(az). v(aaa)."
            + " v(aa0). v(abc).", 13);
        bench.ask("v(X)", 13);
        bench.rows("a;a0;a9;aA;aZ;a_;aa;aa0;aaa;ab;abc;az;b;");
        bench.ask("v(X), X < aa", 6);
        bench.ask("v(X), X <= aa", 7);
        bench.ask("v(X), X > abc", 2);
        bench.ask("v(X), X >= abc", 3);
    }

    private static void comparisons() {
        Bench.sentence("= and != ask whether both are the same, < and so on by the order of constants");
        String[] signs = {"=", "!=", "<", "<=", ">", ">="};
        int[] pairs = {6, 30, 15, 21, 15, 21};
        int[] besideAb = {1, 5, 4, 5, 1, 2};
        int[] abBeside = {1, 5, 1, 2, 4, 5};
        String values = "v(-1). v(2). v(10). v(a). v(ab). v(b). ";
        for (int i = 0; i < signs.length; i++) {
            Bench bench = Bench.with(values + "p(X,Y) :- v(X), v(Y), X " + signs[i] + " Y. q(X) :- v(X), X"
                + signs[i] + "ab. r(X) :- ab" + signs[i] + "X, v(X).",
                6 + pairs[i] + besideAb[i] + abBeside[i]);
            bench.ask("p(X,Y)", pairs[i]);
            bench.ask("q(X)", besideAb[i]);
            bench.ask("r(X)", abBeside[i]);
            bench.ask("v(X), v(Y), X" + signs[i] + "Y", pairs[i]);
            bench.ask("v(X), X" + signs[i] + "ab", besideAb[i]);
            bench.ask("v(X), ab" + signs[i] + "X", abBeside[i]);
        }
    }

    private static void comparisonsOfConstantsAlone() {
        Bench.sentence("the comparisons are so");
        String[] so = {"1 = 1", "1 != 2", "1 < 2", "1 <= 1", "2 > 1", "1 >= 1", "a = a", "a != b", "a < b",
            "a <= a", "b > a", "a >= a", "1 < a", "1 != a", "a > 1", "0 = -0", "9 < 10", "-2 < -1",
            "a9 < aa", "a < a0", "2147483647 < a", "-2147483648 < 2147483647", "7 = 007"};
        String[] not = {"1 = 2", "1 != 1", "2 < 1", "1 < 1", "2 <= 1", "1 > 1", "1 > 2", "1 >= 2", "a = b",
            "a != a", "b < a", "a < a", "a < 1", "a = 1", "10 < 9", "-1 < -2", "aa < a9", "a0 < a",
            "0 != -0", "a <= 2147483647", "2147483647 <= -2147483648"};
        for (String comparison : so) {
            Bench bench = Bench.with("p :- " + comparison + ".", 1);
            bench.ask(comparison, 1);
            Bench.with("", 0).ask(comparison, 1);
        }
        for (String comparison : not) {
            Bench bench = Bench.with("p :- " + comparison + ".", 0);
            bench.ask(comparison, 0);
            Bench.with("", 0).ask(comparison, 0);
        }
    }

    private static void comparisonsWithOtherConstants() {
        Bench.sentence("ask: constants that the program has not are no fault; by the order of constants");
        Bench bench = Bench.with("p(a). p(c). p(3). p(5).", 4);
        bench.ask("p(X), X < b", 3);
        bench.ask("p(X), X > b", 1);
        bench.ask("p(X), b > X, 4 < X", 2);
        bench.ask("p(X), X <= 4", 1);
        bench.ask("p(X), X >= 4", 3);
        bench.ask("p(X), X = 4", 0);
        bench.ask("p(X), X != 4", 4);
        bench.ask("p(X), X < -9", 0);
        bench.ask("p(X), X < zz", 4);
        bench.ask("p(X), X > 5, X < a", 0);
        bench.ask("p(X), X > 4, X < 6", 1);
        bench.ask("b < bb, b != bb, b = b, 4 = 04, 3 < 4, 4 < 5, a < b, b < c, 4 < b", 1);
        bench.ask("bb < b", 0);
        bench.ask("b = bb", 0);
        bench.ask("4 < 04", 0);
        bench.ask("b > c", 0);
    }

    // ---------------------------------------------------------------- strata

    private static void strata() {
        Bench.sentence("The STRATUM of a predicate is the least number, from 0, that is not below that of any "
            + "predicate in its clauses without not, and above that of any behind not");
        Bench bench = new Bench();
        bench.load("a :- b, not c. c :- d, not e. e :- f. g :- a. h :- g, not a. i :- h, g. b :- j, j.", -1);
        String names = "abcdefghij";
        int[] strata = {2, 0, 1, 0, 0, 0, 2, 3, 3, 0};
        for (int i = 0; i < names.length(); i++) {
            bench.stratum(names.substring(i, i + 1), strata[i]);
        }
        bench.count(3, 4);
        bench.load("p. q :- r. p :- not q. p :- s. s :- p, not t. t :- not u, not q.", -1);
        bench.stratum("u", 0);
        bench.stratum("q", 0);
        bench.stratum("t", 1);
        bench.stratum("s", 2);
        bench.stratum("p", 2);
        bench.count(3, 3);
        bench.load("p :- p, q, p. q :- q, p.", -1);
        bench.stratum("p", 0);
        bench.count(3, 1);
        bench.load("p :- a = b. q :- not p, p = q.", -1);
        bench.stratum("p", 0);
        bench.stratum("q", 1);
    }

    private static void strataOfAChain() {
        Bench.sentence("STRATUM: the least number, from 0, .. above that of any behind not: 63 at most");
        StringBuilder up = new StringBuilder();
        StringBuilder down = new StringBuilder();
        for (int i = 1; i < 64; i++) {
            up.append("p").append(i).append(":-not p").append(i - 1).append(".");
            down.append("p").append(64 - i).append(":-not p").append(63 - i).append(".");
        }
        for (String text : new String[] {up.toString(), down.toString()}) {
            Bench bench = Bench.with(text, 32);
            bench.count(3, 64);
            for (int i = 0; i < 64; i += 7) {
                bench.stratum("p" + i, i);
                bench.stage("p" + i, i % 2 == 1 ? 1 : -1);
            }
        }
    }

    // ---------------------------------------------------------------- stages

    private static void clausesWithoutABody() {
        Bench.sentence("at stage 0 those of the clauses without a body");
        Bench bench = Bench.with("a. b(1). c :- a. d :- not z. b(2) :- a. d2 :- 1 < 2. e. e :- not d.", 7);
        bench.stage("a", 0);
        bench.stage("b(1)", 0);
        bench.stage("e", 0);
        bench.count(6, 1);
        bench.load("p(1). p(2).", -1);
        bench.run(2);
        bench.count(6, 0);
        Bench.sentence("1, if there are none");
        bench.load("p :- 1 < 2. q :- not z. r :- not z, a = a. s(a) :- not z.", -1);
        bench.run(4);
        bench.stage("p", 1);
        bench.stage("q", 1);
        bench.stage("r", 1);
        bench.stage("s(a)", 1);
        bench.count(6, 1);
    }

    private static void oneMoreThanTheGreatest() {
        Bench.sentence("at the stage that is 1 more than the greatest one of the facts used that are of the same "
            + "stratum");
        Bench bench = Bench.with("a. b :- a. c :- b. d :- c, a. e :- a, d, b. f :- a, a. g :- e, f. h :- b, f.", 8);
        String names = "abcdefgh";
        int[] stages = {0, 1, 2, 3, 4, 1, 5, 2};
        for (int i = 0; i < names.length(); i++) {
            bench.stage(names.substring(i, i + 1), stages[i]);
        }
        bench.count(6, 5);
        bench.load("e(1,2). e(2,3). e(3,4). e(4,5). t(X,Y):-e(X,Y). t(X,Z):-t(X,Y),t(Y,Z).", -1);
        bench.run(14);
        bench.stage("e(1,2)", 0);
        bench.stage("t(1,2)", 1);
        bench.stage("t(1,3)", 2);
        bench.stage("t(1,4)", 3);
        bench.stage("t(1,5)", 3);
        bench.stage("t(5,1)", -1);
        bench.count(6, 3);
    }

    private static void factsOfTheSameStage() {
        Bench.sentence("1 more than the greatest one: a fact of this stage is used at the next one");
        Bench bench = Bench.with("p(0). p(1):-p(0). p(2):-p(1). q:-p(2). r:-p(1),p(0). s(X):-p(X),p(2). u:-q,p(1).", 9);
        bench.stage("p(1)", 1);
        bench.stage("p(2)", 2);
        bench.stage("q", 3);
        bench.stage("r", 2);
        bench.stage("s(0)", 3);
        bench.stage("s(2)", 3);
        bench.stage("u", 4);
        bench.load("p(0,0). p(1,X):-p(0,X). q(X):-p(1,X). p(X,1):-p(X,0). r(X):-p(X,1),p(1,X). q(X):-r(X),p(X,X).", -1);
        bench.run(8);
        bench.stage("p(1,0)", 1);
        bench.stage("p(0,1)", 1);
        bench.stage("p(1,1)", 2);
        bench.stage("q(0)", 2);
        bench.stage("r(0)", 2);
        bench.stage("r(1)", 3);
        bench.stage("q(1)", 3);
        bench.count(6, 3);
    }

    private static void lowerStrataCountNothing() {
        Bench.sentence("(those of lower ones count 0; 1, if there are none)");
        Bench bench = Bench.with("a. b :- a. c :- b. p :- c, not z. q :- p, c. r :- c, not y, q. s :- not y2, c, r."
            + " y2 :- not y3, z. u :- not y2, b.", 8);
        bench.stage("c", 2);
        bench.stage("p", 1);
        bench.stage("q", 2);
        bench.stage("r", 3);
        bench.stratum("p", 1);
        bench.stratum("q", 1);
        bench.stratum("r", 1);
        bench.stratum("s", 2);
        bench.stage("s", 1);
        bench.stage("u", 1);
        bench.count(6, 3);
        bench.count(3, 3);
    }

    private static void theLeastStage() {
        Bench.sentence("A fact has the least stage that it can have");
        Bench bench = Bench.with("a. b :- a. c :- b. d :- c. d :- b. d2 :- d. c2 :- c. c2 :- a. a :- d. e :- d2. e.", 7);
        bench.stage("a", 0);
        bench.stage("d", 2);
        bench.stage("d2", 3);
        bench.stage("c2", 1);
        bench.stage("e", 0);
        bench.count(6, 3);
        bench.load("e(1,2). e(2,3). e(1,3). e(3,4). t(X,Y):-e(X,Y). t(X,Z):-t(X,Y),e(Y,Z). t(1,4).", -1);
        bench.run(10);
        bench.stage("t(1,3)", 1);
        bench.stage("t(1,4)", 0);
        bench.stage("t(2,4)", 2);
    }

    // ---------------------------------------------------------------- what follows

    private static void factsThatFollow() {
        Bench.sentence("when its variables are replaced by constants so that each atom of the body is a fact that "
            + "follows");
        Bench bench = Bench.with("e(1,2). e(2,3). e(3,1). e(4,4). t(X,Y):-e(X,Y). t(X,Z):-t(X,Y),e(Y,Z)."
            + " loop(X):-e(X,X). back(Y,X):-e(X,Y),X!=Y. one(X):-e(1,X),e(X,3). all:-one(_),loop(4),e(_,_).", 20);
        bench.ask("t(1,X)", 3);
        bench.rows("1;2;3;");
        bench.ask("loop(X)", 1);
        bench.rows("4;");
        bench.ask("back(X,Y)", 3);
        bench.rows("1,3;2,1;3,2;");
        bench.ask("one(X)", 1);
        bench.rows("2;");
        bench.ask("all", 1);
        bench.load("p(X) :- p(X). q :- p(_). r(X,a) :- r(a,X).", -1);
        bench.run(0);
        bench.count(6, 0);
        bench.load("e(X) :- q(X,b). e(b) :- q(a,_). q(a,c). q(a,d).", -1);
        bench.run(3);
        bench.stage("e(b)", 1);
        bench.stage("e(a)", -1);
    }

    private static void noneThatFollows() {
        Bench.sentence("each behind not is none that follows");
        Bench bench = Bench.with("n(1). n(2). n(3). e(1,2). e(2,3). far(X,Y):-n(X),n(Y),not e(X,Y)."
            + " end(X):-n(X),not some(X). some(X):-e(X,_). o:-not z, not n(4). w:-not n(1). v:-not o.", 16);
        bench.ask("far(X,Y)", 7);
        bench.rows("1,1;1,3;2,1;2,2;3,1;3,2;3,3;");
        bench.ask("end(X)", 1);
        bench.rows("3;");
        bench.ask("o", 1);
        bench.ask("w", 0);
        bench.ask("v", 0);
        bench.ask("n(X), not e(X,2), not e(2,X)", 1);
        bench.rows("2;");
        bench.ask("not y(a)", 1);
        bench.ask("n(X), not n(X)", 0);
    }

    private static void eachFactOnce() {
        Bench.sentence("FACTS are atoms with constants in place of terms");
        Bench.with("p(1). p(01). p(1) :- p(1). p(X) :- p(X), p(X).", 1).count(4, 1);
        Bench.with("p. p. p :- p. q(p). q(p) :- q(p), p.", 2).count(4, 2);
        Bench.with("p(a). q(a). r(b,b). s(a,a). s(b,b).", 5).count(4, 5);
    }

    private static void longChains() {
        Bench.sentence("at the stage that is 1 more than the greatest one: many stages");
        Bench bench = Bench.with(Bench.steps("n", 9) + "c(0,0,0). c(A,B,D):-c(A,B,C),n(C,D)."
            + " c(A,C,0):-c(A,B,9),n(B,C). c(B,0,0):-c(A,9,9),n(A,B).", 1009);
        bench.count(6, 999);
        bench.stage("c(3,2,1)", 321);
        bench.stage("c(9,9,9)", 999);
        String chain = Bench.steps("e", 40);
        String[] rules = {"t(X,Z):-t(X,Y),t(Y,Z).", "t(X,Z):-t(X,Y),e(Y,Z).", "t(X,Z):-e(X,Y),t(Y,Z).",
            "t(X,Z):-t(X,Y),t(Y,Z),not z(X). t(X,Z):-e(X,Y),t(Y,Z),t(X,Y). z(a)."};
        int[] stages = {7, 40, 40, 7};
        for (int i = 0; i < rules.length; i++) {
            bench = Bench.with(chain + "t(X,Y):-e(X,Y)." + rules[i] + "back(X,Y):-t(Y,X),not t(X,Y).",
                i == 3 ? 1681 : 1680);
            bench.count(6, stages[i]);
            bench.stage("t(0,40)", stages[i]);
            bench.ask("t(0,X),t(X,Y),t(Y,30),back(30,X)", 406);
            bench.ask("t(X,Y),back(Y,Z),t(Z,W),W=2,Y=40", 80);
            bench.ask("t(X,_),t(_,X),X<30", 29);
        }
    }
}
