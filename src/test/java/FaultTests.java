/** Which fault counts when there are several, and faults 10, 11 and 12. */
public final class FaultTests {
    public static void main(String[] args) {
        Bench.watch();
        firstOfTheFirstThree();
        thoseBeforeTheOthers();
        otherSize();
        unbound();
        firstOfTenAndEleven();
        twelve();
        depends();
        twelveIsLast();
        inQuestions();
        inFactsAndWords();
        Bench.finish("FaultTests");
    }

    private static void firstOfTheFirstThree() {
        Bench.sentence("The one that comes first on the tape counts of these");
        String[] faulty = {"p(#).", "p().", "p(a,b,c,d,e,f,g)."};
        int[] codes = {1, 2, 3};
        int[] places = {2, 2, 14};
        for (int first = 0; first < faulty.length; first++) {
            for (int second = 0; second < faulty.length; second++) {
                Bench.refusedAlone("q. " + faulty[first] + " " + faulty[second],
                    codes[first], 3 + places[first]);
                Bench.refusedAlone(faulty[first] + faulty[second], codes[first], places[first]);
            }
        }
        Bench.refusedAlone("p( ). #", 2, 3);
        Bench.refusedAlone("# p( ).", 1, 0);
        Bench.refusedAlone("p(a,b,c,d,e,f,g#).", 3, 14);
    }

    private static void thoseBeforeTheOthers() {
        Bench.sentence("The one that comes first on the tape counts of these; then ..");
        String[] later = {"p(X). ", "p(a). p. ", "p :- not p. ", "p(X). p. q :- not q. "};
        for (String text : later) {
            int place = text.length();
            Bench.refusedAlone(text + "#", 1, place);
            Bench.refusedAlone(text + "r(2147483648)", 1, place + 2);
            Bench.refusedAlone(text + ":-", 2, place);
            Bench.refusedAlone(text + "r", 2, place + 1);
            Bench.refusedAlone(text + "r(a,b,c,d,e,f,g).", 3, place + 14);
        }
        Bench.refusedAlone("p(X) :- q(Y,Z), q(Y) r.", 2, 21);
        Bench.refusedAlone("p(a). " + "p.".repeat(255) + "p.", 3, 516);
    }

    private static void otherSize() {
        Bench.sentence("10 at a NAME: the predicate was told before with another number of terms");
        Bench.taken("p(a). p(b). q :- p(X), not p(c). q. q :- q.");
        Bench.refusedAlone("p(a). p(a,b).", 10, 6);
        Bench.refusedAlone("p(a,b). p(a).", 10, 8);
        Bench.refusedAlone("p. p(a).", 10, 3);
        Bench.refusedAlone("p(a). p.", 10, 6);
        Bench.refusedAlone("p(a,b,c,d,e). p(a,b,c,d,e,f).", 10, 14);
        Bench.refusedAlone("p(a). q :- p.", 10, 11);
        Bench.refusedAlone("p(a). q :- not p.", 10, 15);
        Bench.refusedAlone("q :- p. p(a).", 10, 8);
        Bench.refusedAlone("q :- not p. p(a).", 10, 12);
        Bench.refusedAlone("q :- p(X,X), p(X).", 10, 13);
        Bench.refusedAlone("q :- q(a).", 10, 5);
        Bench.refusedAlone("q(X) :- r(X), not q.", 10, 18);
        Bench.refusedAlone("p. p(a). p(a,b).", 10, 3);
        Bench.refusedAlone("p(a). q. p. q(a).", 10, 9);
        Bench.sentence("10: a TERM is no predicate");
        Bench.taken("p(p,p). q(p) :- p(p,q), q = p.");
    }

    private static void unbound() {
        Bench.sentence("11 at a VARIABLE in a head, behind not, or in a comparison, that stands in no "
            + "ATOM of the BODY without not");
        Bench.refusedAlone("p(X).", 11, 2);
        Bench.refusedAlone("p(a,_).", 11, 4);
        Bench.refusedAlone("p(X,Y) :- q(X).", 11, 4);
        Bench.refusedAlone("p(X,X) :- r.", 11, 2);
        Bench.refusedAlone("p(X) :- not q(X).", 11, 2);
        Bench.refusedAlone("p(X) :- X = 1.", 11, 2);
        Bench.refusedAlone("p(X) :- r(Y), X = Y.", 11, 2);
        Bench.refusedAlone("p(a) :- not q(X).", 11, 14);
        Bench.refusedAlone("p(a) :- q(X), not q(Y), not q(Z).", 11, 20);
        Bench.refusedAlone("p(a) :- q(X), not q(_).", 11, 20);
        for (String sign : new String[] {"=", "!=", "<", "<=", ">", ">="}) {
            Bench.refusedAlone("p :- X " + sign + " 1.", 11, 5);
            Bench.refusedAlone("p :- a " + sign + " X.", 11, 8 + sign.length());
            Bench.refusedAlone("p :- X " + sign + " X.", 11, 5);
        }
        Bench.refusedAlone("p :- q(X), X = Y.", 11, 15);
        Bench.refusedAlone("p :- q(X), Y = X.", 11, 11);
        Bench.refusedAlone("p :- q(X), _ = X.", 11, 11);
        Bench.taken("p(X) :- X = 1, q(X).");
        Bench.taken("p(X) :- not r(X), X < Y, q(X,Y).");
        Bench.taken("p(X) :- not r(X), q(_), not s(X,X), t(a,b,X).");
        Bench.sentence("11: each clause has its own variables");
        Bench.refusedAlone("p(X) :- q(X). r(X).", 11, 16);
        Bench.refusedAlone("r(X). p(X) :- q(X).", 11, 2);
        Bench.refusedAlone("p(X) :- p(x), q(Xx).", 11, 2);
    }

    private static void firstOfTenAndEleven() {
        Bench.sentence("then, the one that comes first on the tape of: 10 .. 11 ..");
        Bench.refusedAlone("p(a). p. q(X).", 10, 6);
        Bench.refusedAlone("p(a). q(X). p.", 11, 8);
        Bench.refusedAlone("p(X) :- p(Y,Z), r.", 11, 2);
        Bench.refusedAlone("p :- q(Y), q, X = Y.", 10, 11);
        Bench.refusedAlone("p :- q(Y), X = Y, q.", 11, 11);
        Bench.refusedAlone("p :- q(Y), not q(X), q(Z,Z).", 11, 17);
        Bench.refusedAlone("p(X) :- q(X,Y), q(Y), not r(Z).", 10, 16);
        // The head's variable is found missing only behind the body, but stands before it.
        Bench.refusedAlone("q(a). p(X) :- q(Y,Y), q, s.", 11, 8);
        Bench.refusedAlone("q(a). p(a) :- q(Y,Y), X = Y.", 10, 14);
        Bench.refusedAlone("p(Y,X) :- not q(Z), U = 1.", 11, 2);
        Bench.refusedAlone("p :- not q(Z), U = 1.", 11, 11);
        Bench.refusedAlone("p :- U = 1, not q(Z).", 11, 5);
    }

    private static void twelve() {
        Bench.sentence("Then 12, at the first not whose predicate DEPENDS on that of the clause's head");
        Bench.refusedAlone("p :- not p.", 12, 5);
        Bench.refusedAlone("p(X) :- q(X), not p(X).", 12, 14);
        Bench.refusedAlone("q. p :- q, not r. r :- p.", 12, 11);
        Bench.refusedAlone("r :- p. p :- q, not r.", 12, 16);
        Bench.refusedAlone("p :- not q. q :- r. r :- not s, not p.", 12, 5);
        Bench.refusedAlone("p(a). p(X) :- q(X), not r(X). r(X) :- s(X). s(X) :- p(X).", 12, 20);
        Bench.refusedAlone("p :- not q. q :- not r. r :- q.", 12, 17);
        Bench.refusedAlone("p :- not s, not q, not p. q :- p.", 12, 12);
        Bench.refusedAlone("p :- not s, not t, not p.", 12, 19);
        Bench.refusedAlone("p :- not q. q :- not p.", 12, 5);
        Bench.refusedAlone("a :- not b. c :- not c. b :- not a.", 12, 5);
        Bench.refusedAlone("a :- not b. c :- not c. b :- c.", 12, 17);
        Bench.taken("p :- not q. q :- not r. r :- s.");
        Bench.taken("p :- p, not q. q :- q, r. r :- q.");
        Bench.taken("p :- not q. p :- not q, not r. q :- not r.");
    }

    private static void depends() {
        Bench.sentence("A head's predicate depends on all predicates of its BODIES, with not or without, "
            + "and on those on which they depend; also on itself, always");
        Bench.refusedAlone("p :- not q. q. q :- r, s. s :- t, p.", 12, 5);
        Bench.refusedAlone("p :- not q. q :- a = b, r. r :- not s. s :- not t, p.", 12, 5);
        Bench.refusedAlone("q :- a. p :- not q. q :- p.", 12, 13);
        Bench.refusedAlone("p :- not q. q :- p, r, s.", 12, 5);
        Bench.refusedAlone("p :- not q. q :- not p, not r.", 12, 5);
        Bench.refusedAlone("p :- not q. q :- p. q :- r. q :- s, t.", 12, 5);
        Bench.refusedAlone("q :- r, s. r :- p, s. p :- not q, s.", 12, 27);
        Bench.taken("p :- not q. q :- p = r, r != p.");
        Bench.taken(Bench.numbered("p", 0, 63, ":-1=1.") + "p63:-not p0, 1=1.");
        Bench.taken("p :- not q(p). q(p) :- r(p).");
        StringBuilder chain = new StringBuilder();
        for (int i = 0; i < 63; i++) {
            chain.append("p").append(i).append(" :- p").append(i + 1).append(". ");
        }
        Bench.taken(chain + "p63 :- p0.");
        Bench.refusedAlone(chain + "p63 :- not p0.", 12, chain.length() + 7);
        Bench.refusedAlone(chain.toString().replace("p0 :- ", "p0 :- not ") + "p63 :- p0.", 12, 6);
        Bench.taken(chain.toString().replace("p0 :- ", "p0 :- not ") + "p63 :- p1.");
        StringBuilder back = new StringBuilder();
        for (int i = 63; i > 0; i--) {
            back.append("p").append(i - 1).append(" :- p").append(i).append(". ");
        }
        Bench.refusedAlone(back + "p63 :- p1, not p0.", 12, back.length() + 11);
        Bench.taken(back + "p0 :- p1, not p63.");
    }

    private static void twelveIsLast() {
        Bench.sentence("Then 12: when there is no other");
        Bench.refusedAlone("p :- not p. q(X).", 11, 14);
        Bench.refusedAlone("p :- not p. p(a).", 10, 12);
        Bench.refusedAlone("p(X) :- q(X), not p(Y).", 11, 20);
        Bench.refusedAlone("p(X) :- q(X), not p(X), not q.", 10, 28);
    }

    private static void inQuestions() {
        Bench.sentence("ask: 1; 2; 3 ..; 10, by the program's atoms and its own before; 11");
        Bench bench = Bench.with("e(a,b). n(a). z.", 3);
        bench.askRefused("e(X)", 10, 0);
        bench.askRefused("e", 10, 0);
        bench.askRefused("z(a)", 10, 0);
        bench.askRefused("n(X), not e(X)", 10, 10);
        bench.askRefused("n(X), n(X,Y)", 10, 6);
        bench.askRefused("q(X), q(X,Y)", 10, 6);
        bench.askRefused("q, not q(a)", 10, 7);
        bench.askRefused("not q(a), n(X), q", 10, 16);
        bench.ask("q(X), q(Y), not r(X)", 0);
        bench.ask("q(X,Y)", 0);
        bench.ask("r(X,Y)", 0);
        bench.askRefused("n(X), X < Y", 11, 10);
        bench.askRefused("n(X), not e(X,Y)", 11, 14);
        bench.askRefused("n(X), not q(Y)", 11, 12);
        bench.askRefused("X = 1", 11, 0);
        bench.askRefused("1 = _", 11, 4);
        bench.ask("X = a, n(X)", 1);
        bench.askRefused("X = Y, n(X,Y)", 10, 7);
        bench.askRefused("n(X,Y), Z = 1", 10, 0);
        bench.askRefused("Z = 1, n(X,Y)", 11, 0);
        bench.askRefused("n(X,Y), Z = 1, ?", 1, 15);
        bench.askRefused("n, Z = 1, ,", 2, 10);
        bench.askRefused("n, Z = 1, n(1,2,3,4,5,6,7)", 3, 24);
    }

    private static void inFactsAndWords() {
        Bench.sentence("stage: 1; 2, also a VARIABLE; 3 for TERMs; 10 by the program's atoms");
        Bench bench = Bench.with("e(a,b). n(a). z. y :- x(c).", 3);
        bench.stageRefused("e(a)", 10, 0);
        bench.stageRefused("e", 10, 0);
        bench.stageRefused("e(a,b,c,d,e,f)", 10, 0);
        bench.stageRefused("z(a)", 10, 0);
        bench.stageRefused("x", 10, 0);
        bench.stageRefused("e(new)", 10, 0);
        bench.stageRefused("e(a) #", 1, 5);
        bench.stageRefused("e(a) z", 2, 5);
        bench.stageRefused("e(X)", 2, 2);
        bench.stageRefused("e(a,b).", 2, 6);
        bench.stageRefused("e(a,b), z", 2, 6);
        bench.stageRefused("a = a", 2, 2);
        bench.stageRefused("not z", 2, 0);
        bench.stageRefused("X", 2, 0);
        bench.stageRefused("1", 2, 0);
        bench.stage("w(a)", -1);
        bench.stage("w(a,b)", -1);
        Bench.sentence("stratum: its fault (1, 2)");
        bench.stratumRefused("z(a)", 2, 1);
        bench.stratumRefused("z.", 2, 1);
        bench.stratumRefused("z z", 2, 2);
        bench.stratumRefused("z = z", 2, 2);
        bench.stratumRefused("X", 2, 0);
        bench.stratumRefused("1", 2, 0);
        bench.stratumRefused("_", 2, 0);
        bench.stratumRefused("#", 1, 0);
        bench.stratumRefused("z #", 1, 2);
    }
}
