/** Fault 3, too many: each limit just kept and just passed, and what else may stand there. */
public final class LimitTests {
    private static final String TWELVE = "q,q,q,q,q,q,q,q,q,q,q,q";
    private static final String SIXES = "q(A,B,C,D,E,F), q(G,H,I,J,K,L)";

    public static void main(String[] args) {
        Bench.watch();
        seventhTerm();
        thirteenthLiteral();
        thirteenthVariable();
        fullClauses();
        clause257();
        predicate65();
        predicatesCounted();
        constant1001();
        constantsCounted();
        thousandConstants();
        constantsByValue();
        nameInABody();
        questionsHaveOnlyThree();
        factsHaveOnlyTerms();
        allAtOnce();
        Bench.finish("LimitTests");
    }

    // ---------------------------------------------------------------- TERMs, LITERALs, VARIABLEs

    private static void seventhTerm() {
        String[] before = {"", "p :- ", "p :- not ", "p :- q, ", "p. p :- q, not "};
        for (String text : before) {
            String six = text + "r(a,1,b,2,c,3";
            Bench.sentence("3: too many: the 7th TERM of an ATOM");
            Bench.taken(six + ").");
            for (String term : new String[] {"d", "4", "a", "1", "X", "_"}) {
                Bench.refusedAlone(six + "," + term + ").", 3, six.length() + 1);
                Bench.refusedAlone(six + ", " + term + " ?", 3, six.length() + 2);
            }
            Bench.sentence("3: at its first token, if that can begin one there (else it is 1 or 2)");
            for (String other : new String[] {")", ",", "(", "not", ".", "=", ":-", ""}) {
                Bench.refusedAlone(six + "," + other, 2, six.length() + 1);
            }
            for (String other : new String[] {"#", "-", "2147483648", "-2147483649"}) {
                Bench.refusedAlone(six + "," + other, 1, six.length() + 1);
            }
        }
        Bench bench = Bench.with("r(a,1,b,2,c,3). r(1,2,3,4,5,6).", 2);
        bench.ask("r(A,B,C,D,E,F)", 2);
        bench.rows("1,2,3,4,5,6;a,1,b,2,c,3;");
        bench.stage("r(1,2,3,4,5,6)", 0);
        bench.stage("r(1,2,3,4,5,1)", -1);
    }

    private static void thirteenthLiteral() {
        Bench.sentence("3: too many: the 13th LITERAL of a BODY");
        String full = "p :- " + TWELVE;
        Bench.taken(full + ".");
        Bench.taken("p(X) :- q(X),not r(X),X=X,a=a,1<2,not s,s2,X!=1,X<a,X<=a,X>a,X>=a.");
        Bench.taken("p :- q,q,q,q,q,q,q. p :- q,q,q,q,q,q.");
        int next = full.length() + 1;
        String[] literals = {"q", "r(a)", "not q", "not r(X)", "1=1", "-1<X", "X=1", "_=1", "a=1",
            "a<=b", "q#", "a=#", "not #", "1 1", "X X"};
        for (String literal : literals) {
            Bench.refusedAlone(full + "," + literal + ".", 3, next);
        }
        Bench.sentence("3: at its first token, if that can begin one there (else it is 1 or 2)");
        for (String other : new String[] {".", ",", "(", ")", "=", "<", ":-", ""}) {
            Bench.refusedAlone(full + "," + other, 2, next);
        }
        for (String other : new String[] {"#", "-", ":", "!", "2147483648", "-2147483649=1"}) {
            Bench.refusedAlone(full + "," + other, 1, next);
        }
        Bench.refusedAlone(full + " q.", 2, next);
        Bench.refusedAlone(full + "\n % x\n , % y\n q.", 3, full.length() + 14);
        Bench bench = Bench.with("q. p :- " + TWELVE + ". r :- " + TWELVE.replace(",q,", ",not s,") + ".", 3);
        bench.ask(TWELVE, 1);
        bench.ask("not s," + TWELVE.substring(2), 1);
        bench.ask(TWELVE.substring(2) + ",not q", 0);
    }

    private static void thirteenthVariable() {
        Bench.sentence("3: too many: the 13th VARIABLE of a clause (each _ is one)");
        String full = "p :- " + SIXES;
        Bench.taken(full + ".");
        Bench.taken(full + ", q(A,L,B,K,C,J), A = B, not q(A,A,A,A,A,A).");
        Bench.refusedAlone(full + ", r(M).", 3, 39);
        Bench.refusedAlone(full + ", r(A,M).", 3, 41);
        Bench.refusedAlone(full + ", r(_).", 3, 39);
        Bench.refusedAlone(full + ", not r(M).", 3, 43);
        Bench.refusedAlone(full + ", not r(_).", 3, 43);
        Bench.refusedAlone(full + ", M = A.", 3, 37);
        Bench.refusedAlone(full + ", A = M.", 3, 41);
        Bench.refusedAlone(full + ", _ = A.", 3, 37);
        Bench.refusedAlone(full + ", M#", 3, 37);
        Bench.sentence("The VARIABLE _ is another one wherever it stands; each _ is one");
        String nameless = "p :- q(_,_,_,_,_,_), q(_,_,_,_,_,_)";
        Bench.taken(nameless + ".");
        Bench.taken(nameless + ", r(a).");
        Bench.refusedAlone(nameless + ", r(_).", 3, 39);
        Bench.refusedAlone(nameless + ", r(A).", 3, 39);
        Bench.taken("p :- q(_,_,_,_,_,_), q(A,B,C,D,E,F), q(A,B,C,D,E,F).");
        Bench.refusedAlone("p :- q(A,B,C,D,E,F), q(_,_,_,_,_,_), r(A,B,_).", 3, 43);
        Bench.sentence("3: the 13th VARIABLE of a clause: its head's are among them");
        Bench.taken("p(A,B,C,D,E,F) :- q(L,K,J,I,H,G), q(F,E,D,C,B,A).");
        Bench.refusedAlone("p(A,B,C,D,E,F) :- q(L,K,J,I,H,G), q(F,E,D,C,B,M).", 3, 46);
        Bench.refusedAlone("p(A,B,C,D,E,_) :- q(L,K,J,I,H,G), q(F,E,D,C,B,A).", 3, 36);
        Bench.sentence("3: the 13th VARIABLE of a clause: each clause has its own");
        Bench.taken(full + ". s(M,N) :- r(M,N). " + full.replace('A', 'Z') + ".");
        Bench.refusedAlone("p(A) :- q(A). " + full + ", r(Z).", 3, 53);
        Bench.sentence("3: at its first token, if that can begin one there (else it is 1 or 2)");
        Bench.refusedAlone(full + ", not M.", 2, 41);
        Bench.refusedAlone(full + " M.", 2, 36);
        Bench.refusedAlone(full + ". M.", 2, 37);
        Bench.refusedAlone(full + ", q(A M).", 2, 41);
    }

    // ---------------------------------------------------------------- clauses and PREDICATEs

    private static void fullClauses() {
        Bench.sentence("3: too many: 256 clauses with 12 LITERALs each are not");
        String clause = "p:-" + TWELVE + ".";
        Bench bench = new Bench();
        bench.load(clause.repeat(255) + "p:-q,q,q,q,q,q,q,q,q,q,q,1=1.", -1);
        bench.counts(256, 2, 1, 1, -1, 0, -1);
        bench.run(0);
        bench = new Bench();
        bench.load(clause.repeat(254) + "p:-q,q,q,q,q,q,q,q,q,q,q,not r.q.", -1);
        bench.run(2);
        bench.stage("p", 1);
    }

    private static void clause257() {
        Bench.sentence("3: too many: the 257th clause");
        String full = "p.".repeat(256);
        Bench.taken(full);
        Bench.taken(full + " % p.\n");
        Bench.taken("p.".repeat(128) + "p:-p.".repeat(128));
        for (String clause : new String[] {"p.", "q", "p(a)", "p:-p.", "p#", "p("}) {
            Bench.refusedAlone(full + clause, 3, 512);
            Bench.refusedAlone(full + " %\n" + clause, 3, 515);
        }
        Bench.sentence("3: at its first token, if that can begin one there (else it is 1 or 2)");
        for (String other : new String[] {".", "P.", "_.", "1.", "not p.", ":-", "(", ")", "="}) {
            Bench.refusedAlone(full + other, 2, 512);
        }
        for (String other : new String[] {"-", "#", ":", "2147483648."}) {
            Bench.refusedAlone(full + other, 1, 512);
        }
        Bench bench = new Bench();
        bench.load(full, -1);
        bench.count(0, 256);
        bench.load(full + "q.", 512);
        bench.count(0, 256);
        bench.run(1);
        bench.load("p.".repeat(255), -1);
        bench.count(0, 255);
    }

    private static void predicate65() {
        Bench.sentence("3: too many: the 65th PREDICATE");
        String full = Bench.numbered("p", 0, 64, ".");
        int next = full.length();
        Bench.taken(full);
        Bench.taken(full + "p0. p63 :- p0, not p1.");
        Bench.refusedAlone(full + "x.", 3, next);
        Bench.refusedAlone(full + "x(a).", 3, next);
        Bench.refusedAlone(full + "x:-p0.", 3, next);
        Bench.refusedAlone(full + "p64.", 3, next);
        Bench.refusedAlone(full + "x#", 3, next);
        Bench.refusedAlone(full + "p0:-x.", 3, next + 4);
        Bench.refusedAlone(full + "p0:-x(a).", 3, next + 4);
        Bench.refusedAlone(full + "p0:-p1,x.", 3, next + 7);
        Bench.refusedAlone(full + "p0:-not x.", 3, next + 8);
        Bench.refusedAlone(full + "p0:-not x(a).", 3, next + 8);
        Bench.sentence("3: at its first token, if that can begin one there (else it is 1 or 2)");
        Bench.refusedAlone(full + "p0 x.", 2, next + 3);
        Bench.refusedAlone(full + "p0:-not X.", 2, next + 8);
        Bench.refusedAlone(full + "p0(x).", 10, next);
        Bench.taken(full + "p0:-x=y.");
        Bench bench = new Bench();
        bench.load(full, -1);
        bench.count(1, 64);
        bench.stratum("p63", 0);
        bench.run(64);
        bench.refused(full + "x.", 3, next);
        bench.count(1, 64);
        bench.run(64);
    }

    private static void predicatesCounted() {
        Bench.sentence("A name with its atoms is a PREDICATE: in a head, in a body, behind not, once");
        String heads = Bench.numbered("p", 0, 32, ".");
        String bodies = Bench.numbered("p0:-p", 32, 48, ".") + Bench.numbered("p0:-not p", 48, 64, ".");
        Bench bench = new Bench();
        bench.load(heads + heads + bodies, -1);
        bench.count(1, 64);
        bench.refused(heads + heads + bodies + "x.", 3, (heads + heads + bodies).length());
        bench.refused(bodies + heads + "x.", 3, (bodies + heads).length());
        bench.load("p(p,q,r) :- p=q, r=s, q(p,q).", -1);
        bench.counts(1, 2, 4);
    }

    // ---------------------------------------------------------------- constants

    private static void constant1001() {
        Bench.sentence("3: too many: the 1001st constant");
        for (String word : new String[] {"", "-", "c"}) {
            // -0 is 0, so these begin with another number.
            String full = word.equals("-")
                ? Bench.constants("p", word, 1000).replace("-0,", "-1000,")
                : Bench.constants("p", word, 1000);
            int next = full.length();
            Bench.taken(full);
            Bench.taken(full + "p(" + word + "1," + word + "2,X,Y,Z):-p(X,Y,Z,U,V).");
            Bench.refusedAlone(full + "p(" + word + "1,x,", 3, next + 4 + word.length());
            Bench.refusedAlone(full + "p(7777).", 3, next + 2);
        }
        String full = Bench.constants("p", "", 1000);
        int next = full.length();
        Bench.refusedAlone(full + "p(a).", 3, next + 2);
        Bench.refusedAlone(full + "p(1000).", 3, next + 2);
        Bench.refusedAlone(full + "p(-1).", 3, next + 2);
        Bench.refusedAlone(full + "p(0,a#", 3, next + 4);
        Bench.refusedAlone(full + "q(a):-p(X).", 3, next + 2);
        Bench.refusedAlone(full + "q:-r(a).", 3, next + 5);
        Bench.refusedAlone(full + "q:-not r(a).", 3, next + 9);
        Bench.refusedAlone(full + "q:-1=a.", 3, next + 5);
        Bench.refusedAlone(full + "q:-a=1.", 3, next + 3);
        Bench.refusedAlone(full + "q:-1000=1.", 3, next + 3);
        Bench.refusedAlone(full + "q:-1=1000.", 3, next + 5);
        Bench.sentence("3: at its first token, if that can begin one there (else it is 1 or 2)");
        Bench.refusedAlone(full + "p(1 a).", 2, next + 4);
        Bench.refusedAlone(full + "q:-not 1000.", 2, next + 7);
        Bench.refusedAlone(full + "p(2147483648).", 1, next + 2);
        Bench.refusedAlone(full + "1000.", 2, next);
    }

    private static void constantsCounted() {
        Bench.sentence("constant (NAMEs and NUMBERs as TERMs, each once)");
        Bench bench = new Bench();
        bench.load("p(a,1) :- q(b,2,X), not r(c,3), d = 4, X != e, 5 < X, a = 1, b < 2.", -1);
        bench.counts(1, 3, 10);
        bench.load("a(a). a(a) :- a(a), not b(a), a = a, c.", -1);
        bench.counts(2, 3, 1);
        bench.load("p. q :- p, not r.", -1);
        bench.counts(2, 3, 0);
        String half = Bench.constants("p", "", 500);
        String other = Bench.constants("q", "c", 500);
        bench = new Bench();
        bench.load(half + other, -1);
        bench.count(2, 1000);
        bench.run(200);
        bench.ask("p(0,X,_,_,_), q(Y,_,_,_,c499)", 1);
        bench.rows("1,c495;");
    }

    private static void thousandConstants() {
        Bench.sentence("the 1001st constant is too many: all of a thousand can be found, first and last");
        Bench bench = Bench.with(Bench.constants("p", "", 1000) + "q(Y,X):-p(X,_,_,_,Y).r(X,Z):-q(Y,X),p(X,Z,_,_,Y).", 600);
        bench.ask("p(X,Y,_,_,_), p(X,Y,Z,_,W)", 200);
        bench.number(0, 3, 4);
        bench.number(199, 0, 995);
        bench.number(199, 1, 996);
        bench.number(199, 2, 997);
        bench.number(199, 3, 999);
        bench.ask("q(X,Y), r(Y,Z), Z > 990", 2);
        bench.rows("994,990,991;999,995,996;");
        bench.ask("p(511,_,_,_,_)", 0);
        bench.ask("p(_,511,X,_,_)", 1);
        bench.rows("512;");
        bench.stage("p(995,996,997,998,999)", 0);
        bench.stage("r(995,996)", 2);
    }

    private static void constantsByValue() {
        Bench.sentence("NUMBERs by their value: 0, -0 and 00 are one");
        Bench bench = new Bench();
        bench.load("p(0,-0,00,-000,0000000000000). q :- 7 = 007, -7 = -07.", -1);
        bench.count(2, 3);
        bench.run(2);
        bench.ask("p(X,X,X,X,X)", 1);
        bench.rows("0;");
        bench.ask("p(-0,00,0,0,0), 0 = -0, 00 = 0", 1);
        bench.stage("p(-0,-0,-0,00,00)", 0);
        bench.refused("p(0). p(-0).", 0, -1);
        bench.run(1);
        String full = Bench.constants("p", "", 1000);
        Bench.taken(full + "p(-0,00,007,0999,0000000000000000000000500).");
        Bench.refusedAlone(full + "p(-0,00,-7).", 3, full.length() + 8);
    }

    private static void nameInABody() {
        Bench.sentence("3: of a NAME in a BODY at that NAME, before what is behind it is looked at "
            + "further than for those signs");
        String predicates = Bench.numbered("p", 0, 64, ".");
        int next = predicates.length() + 4;
        for (String behind : new String[] {"", ".", "#", "-", "!", ":", ")", "(", "(#", "()", "(a b)",
            "(a,b,c,d,e,f,g)", " 2147483648", " q", " not", " X", "%=\n."}) {
            Bench.refusedAlone(predicates + "p0:-x" + behind, 3, next);
            Bench.refusedAlone(predicates + "p0:-not x" + behind, 3, next + 4);
        }
        for (String sign : new String[] {"=", "!=", "<", "<=", ">", ">="}) {
            Bench.taken(predicates + "p0:-x" + sign + "1.");
            Bench.taken(predicates + "p0:-x %\n " + sign + "y.");
            Bench.refusedAlone(predicates + "p0:-x" + sign + "#", 1, next + 1 + sign.length());
            Bench.refusedAlone(predicates + "p0:-x" + sign + ".", 2, next + 1 + sign.length());
        }
        String constants = Bench.constants("p", "", 1000);
        int after = constants.length() + 3;
        for (String sign : new String[] {"=", "!=", "<", "<=", ">", ">="}) {
            for (String behind : new String[] {"1.", "", "#", "2147483648", ".", "=", "x", "1#"}) {
                Bench.refusedAlone(constants + "q:-a" + sign + behind, 3, after);
            }
        }
        Bench.taken(constants + "q:-a.");
        Bench.taken(constants + "q:-a, not b.");
        Bench.refusedAlone(constants + "q:-a#", 1, after + 1);
        Bench.refusedAlone(constants + "q:-a!", 1, after + 1);
        Bench.refusedAlone(constants + "q:-a b.", 2, after + 2);
    }

    // ---------------------------------------------------------------- questions and facts

    private static void questionsHaveOnlyThree() {
        Bench.sentence("ask: 3 for TERMs, LITERALs and VARIABLEs");
        Bench bench = Bench.with("q. r(1,2,3,4,5,6).", 2);
        bench.ask("r(A,B,C,D,E,F)", 1);
        bench.askRefused("r(A,B,C,D,E,F,G)", 3, 14);
        bench.askRefused("z(1,2,3,4,5,6,7)", 3, 14);
        bench.askRefused("not z(1,2,3,4,5,6,_)", 3, 18);
        bench.askRefused("r(1,2,3,4,5,6,)", 2, 14);
        bench.askRefused("r(1,2,3,4,5,6,2147483648)", 1, 14);
        bench.ask(TWELVE, 1);
        bench.askRefused(TWELVE + ",q", 3, 24);
        bench.askRefused(TWELVE + ",not q", 3, 24);
        bench.askRefused(TWELVE + ",1=1", 3, 24);
        bench.askRefused(TWELVE + ",a=#", 3, 24);
        bench.askRefused(TWELVE + ",", 2, 24);
        bench.askRefused(TWELVE + ",#", 1, 24);
        String full = "r(A,B,C,D,E,F),r(G,H,I,J,K,L)";
        bench.ask(full, 1);
        bench.columns(12);
        bench.rows("1,2,3,4,5,6,1,2,3,4,5,6;");
        bench.askRefused(full + ",M=1", 3, 30);
        bench.askRefused(full + ",1=_", 3, 32);
        bench.askRefused(full + ",z(A,M)", 3, 34);
        bench.askRefused("r(_,_,_,_,_,_),r(_,_,_,_,_,_),z(_)", 3, 32);
        bench.ask("r(_,_,_,_,_,_),r(_,_,_,_,_,_)", 1);
        bench.columns(0);
        bench.ask("r(_,_,_,_,_,_),r(_,_,_,_,_,L)", 1);
        bench.columns(1);
        bench.rows("6;");
    }

    private static void factsHaveOnlyTerms() {
        Bench.sentence("stage: 1; 2, also a VARIABLE; 3 for TERMs");
        Bench bench = Bench.with("r(1,2,3,4,5,6).", 1);
        bench.stage("r(1,2,3,4,5,6)", 0);
        bench.stageRefused("r(1,2,3,4,5,6,7)", 3, 14);
        bench.stageRefused("r(1,2,3,4,5,6,a)", 3, 14);
        bench.stageRefused("z(1,2,3,4,5,6,7#", 3, 14);
        bench.stageRefused("r(1,2,3,4,5,6,X)", 2, 14);
        bench.stageRefused("r(1,2,3,4,5,6,)", 2, 14);
        bench.stageRefused("r(1,2,3,4,5,6,2147483648)", 1, 14);
        bench.stageRefused("r(1,2,3,4,5,X)", 2, 12);
        bench.stageRefused("r(_,2,3,4,5,6)", 2, 2);
        bench.stage("z(a,b,c,d,e,f)", -1);
    }

    /** A program at all its limits can still be asked about what it has not. */
    private static void allAtOnce() {
        Bench.sentence("(Predicates and constants that the program has not are no fault, however many)");
        int clauses = 200 + 56;
        Bench bench = new Bench();
        bench.load(Bench.constants("p", "", 1000) + Bench.numbered("q", 0, 56, "."), -1);
        bench.counts(clauses, 57, 1000, 1, -1, 0, -1);
        bench.run(clauses);
        StringBuilder question = new StringBuilder("p(X,_,_,_,_)");
        for (int i = 0; i < 11; i++) {
            question.append(",not z").append(i);
            question.append('(').append(Bench.list("c", 6 * i, 6 * i + 6)).append(')');
        }
        bench.ask(question.toString(), 200);
        bench.fault(0);
        bench.number(0, 0, 0);
        bench.number(199, 0, 995);
        bench.ask("z(X), p(a,b,c,d,e)", 0);
        bench.ask("q0, a < b, b < c, 1000 < a, -1 < 0", 1);
        bench.stage("z(a,b,c,d,e,f)", -1);
        bench.stage("p(a,b,c,d,e)", -1);
        bench.stratum("z", -1);
        bench.counts(clauses, 57, 1000, 1, clauses, 1, 0);
        Bench.sentence("3: too many: limits that are full at once");
        String full = Bench.numbered("p", 0, 64, ".");
        bench = new Bench();
        bench.load(full, -1);
        bench.run(64);
        bench.ask(Bench.numbered("not z", 0, 11, ",") + "p0", 1);
        bench.ask(Bench.list("z", 0, 12), 0);
        bench.count(1, 64);
    }
}
