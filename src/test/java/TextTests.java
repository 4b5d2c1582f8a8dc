import java.math.BigInteger;

/** The document's words on the TEXT: blanks, tokens, numbers, and what may stand where. */
public final class TextTests {
    private static final String BLANKS = "\t\n\r ";
    private static final String DIGITS = "0123456789";
    private static final String SMALL = "abcdefghijklmnopqrstuvwxyz";
    private static final String GREAT = SMALL.toUpperCase();
    private static final BigInteger LEAST = BigInteger.valueOf(Integer.MIN_VALUE);
    private static final BigInteger MOST = BigInteger.valueOf(Integer.MAX_VALUE);

    public static void main(String[] args) {
        Bench.watch();
        eachByteAsAToken();
        eachByteBehindAName();
        eachByteInAComment();
        comments();
        asLongAsMayBe();
        names();
        not();
        variables();
        numbersKeptAndPassed();
        numbersWhereverTheyStand();
        signs();
        clauses();
        bodies();
        atoms();
        terms();
        nameWithASignBehind();
        nameless();
        atTheFirstByte();
        atTheEnd();
        noToken();
        Bench.finish("TextTests");
    }

    private static boolean in(String set, int c) {
        return set.indexOf(c) >= 0;
    }

    // ---------------------------------------------------------------- blanks and comments

    private static void eachByteAsAToken() {
        Bench.sentence("1: no token begins there");
        for (int c = 0; c < 256; c++) {
            String text = "p." + (char) c;
            if (in(BLANKS + "%", c)) {
                Bench.taken(text);
            } else if (in(SMALL, c)) {
                Bench.refusedAlone(text, 2, 3);
            } else if (in(GREAT + DIGITS + "_(),.=<>", c)) {
                Bench.refusedAlone(text, 2, 2);
            } else {
                Bench.refusedAlone(text, 1, 2);
            }
        }
    }

    private static void eachByteBehindAName() {
        Bench.sentence("BLANKS (9, 10, 13, 32) .. a NAME (a small letter, then letters, digits, _)");
        for (int c = 0; c < 256; c++) {
            String text = "p" + (char) c + ".";
            if (in(BLANKS, c)) {
                Bench bench = new Bench();
                bench.load(text, -1);
                bench.stratum("p", 0);
            } else if (in(SMALL + GREAT + DIGITS + "_", c)) {
                Bench bench = new Bench();
                bench.load(text, -1);
                bench.stratum("p", -1);
                bench.stratum("p" + (char) c, 0);
            } else if (c == '%') {
                Bench.refusedAlone(text, 2, 3);
            } else if (in("(.", c)) {
                Bench.refusedAlone(text, 2, 2);
            } else {
                Bench.refusedAlone(text, in("),=<>", c) ? 2 : 1, 1);
            }
        }
    }

    private static void eachByteInAComment() {
        Bench.sentence("what is from % to before the next byte 10");
        for (int c = 0; c < 256; c++) {
            Bench bench = new Bench();
            bench.load("p.%" + (char) c + "\nq.", -1);
            bench.count(0, 2);
        }
        for (int c = 0; c < 256; c++) {
            Bench bench = new Bench();
            bench.load("p.%" + (char) c + "q.", -1);
            bench.count(0, c == 10 ? 2 : 1);
        }
    }

    private static void comments() {
        Bench.sentence("what is from % to before the next byte 10, or the end");
        Bench bench = new Bench();
        bench.load("%", -1);
        bench.load("p.%", -1);
        bench.count(0, 1);
        bench.load("%\np.", -1);
        bench.count(0, 1);
        bench.load("% p. % q.\r r.", -1);
        bench.count(0, 0);
        bench.load("%%\n%\n\n%x\np.%\n%", -1);
        bench.count(0, 1);
        bench.load("p%\n.q% .\n:-%\n p%\n,%\n1%\n=%\n1%\n.", -1);
        bench.count(0, 2);
        bench.refused("no%\nt.", 2, 4);
        bench.refused("p(1%\n2).", 2, 5);
        bench.refused("p:%\n-q.", 1, 1);
        bench.refused("p:-1<%\n=2.", 2, 7);
        bench.run(2);
        bench.ask("p % what\n, q%", 1);
        bench.stage("%\np%\n", 0);
        bench.stratum("%\nq % so", 0);
    }

    // ---------------------------------------------------------------- tokens

    private static void asLongAsMayBe() {
        Bench.sentence("TOKENS, each as long as may be");
        Bench.taken("p:-1<=2,1>=2,1<2,1>2,1=2,1!=2.");
        Bench.taken("p:--1=-1,-1<-1,-1>-1.");
        Bench.taken("p:-a<=-1,a!=-1.");
        Bench.refusedAlone("p :- 1 < = 2.", 2, 9);
        Bench.refusedAlone("p :- 1 > = 2.", 2, 9);
        Bench.refusedAlone("p :- 1<==2.", 2, 8);
        Bench.refusedAlone("p :- 1>==2.", 2, 8);
        Bench.refusedAlone("p :- 1!==2.", 2, 8);
        Bench.refusedAlone("p :- 1==2.", 2, 7);
        Bench.refusedAlone("p :- 1=<2.", 2, 7);
        Bench.refusedAlone("p :- 1=>2.", 2, 7);
        Bench.refusedAlone("p :- 1<>2.", 2, 7);
        Bench.refusedAlone("p:-:-q.", 2, 3);
        Bench.refusedAlone("p..", 2, 2);
        Bench.refusedAlone("p(1a).", 2, 3);
        Bench.refusedAlone("p(1_).", 2, 3);
        Bench.refusedAlone("p(1X).", 2, 3);
        Bench.refusedAlone("p(1-1).", 2, 3);
        Bench.refusedAlone("p(a-1).", 2, 3);
        Bench.refusedAlone("p(12 3).", 2, 5);
        Bench bench = Bench.with("p(-12,ab,a). q:-p(-12,ab,a),1<2.", 2);
        bench.ask("p(X,Y,Z)", 1);
        bench.rows("-12,ab,a;");
    }

    private static void names() {
        Bench.sentence("a NAME (a small letter, then letters, digits, _)");
        String longest = SMALL + GREAT + DIGITS + "_";
        Bench bench = Bench.with(longest + "(" + longest + ",z9,z_,zZ).", 1);
        bench.stratum(longest, 0);
        bench.ask(longest + "(X,Y,Z,W)", 1);
        bench.rows(longest + ",z9,z_,zZ;");
        for (int i = 0; i < SMALL.length(); i++) {
            Bench.taken(SMALL.charAt(i) + ".");
            Bench.refusedAlone(GREAT.charAt(i) + ".", 2, 0);
        }
        Bench.refusedAlone("_p.", 2, 0);
        Bench.refusedAlone("9p.", 2, 0);
        Bench.refusedAlone("1.", 2, 0);
        String name = "x".repeat(2000);
        bench = Bench.with("p(" + name + "," + name + "y). p(" + name + "x,a).", 2);
        bench.ask("p(X,Y)", 2);
        bench.number(0, 0, 2000);
        bench.number(0, 1, 2001);
        bench.number(1, 0, 2001);
        bench.letter(0, 1, 1999, (int) 'x');
        bench.letter(0, 1, 2000, (int) 'y');
        bench.letter(0, 1, 2001, Bench.INDEX);
        bench.letter(0, 0, 2000, Bench.INDEX);
    }

    private static void not() {
        Bench.sentence("a NAME (..; but not is none)");
        Bench.taken("notp. no. nott. not_. not1. noT. nOt. p:-not notp.");
        Bench.taken("p(nott,no,not_) :- nota = not1.");
        Bench.refusedAlone("not.", 2, 0);
        Bench.refusedAlone("not(a).", 2, 0);
        Bench.refusedAlone("not p.", 2, 0);
        Bench.refusedAlone("p(not).", 2, 2);
        Bench.refusedAlone("p :- not.", 2, 8);
        Bench.refusedAlone("p :- not(a).", 2, 8);
        Bench.refusedAlone("p :- not = a.", 2, 9);
        Bench.refusedAlone("p :- a = not.", 2, 9);
        Bench.refusedAlone("p :- not not q.", 2, 9);
        Bench bench = Bench.with("p(a).", 1);
        bench.askRefused("p(not)", 2, 2);
        bench.askRefused("not", 2, 3);
        bench.stageRefused("not", 2, 0);
        bench.stageRefused("p(not)", 2, 2);
        bench.stratumRefused("not", 2, 0);
        bench.stratum("nots", -1);
        bench.refused("Not.", 2, 0);
        bench.ask("p(Not)", 1);
        bench.columns(1);
    }

    private static void variables() {
        Bench.sentence("a VARIABLE (a great letter or _, then letters, digits, _)");
        Bench bench = Bench.with("q(1,2,3,4,5,6).", 1);
        bench.ask("q(A,Zz,_a,__,_9,Z_9bC)", 1);
        bench.columns(6);
        bench.rows("1,2,3,4,5,6;");
        bench.ask("q(X,XX,Xx,X1,X_,_X)", 1);
        bench.rows("1,2,3,4,5,6;");
        for (int i = 0; i < GREAT.length(); i++) {
            Bench.taken("p(" + GREAT.charAt(i) + "):-q(" + GREAT.charAt(i) + ").");
        }
        String name = "X".repeat(900);
        bench.ask("q(" + name + "," + name + "X,_,_,_,_), " + name + " = 1", 1);
        bench.rows("1,2;");
        bench.ask("q(" + name + "," + name + ",_,_,_,_)", 0);
    }

    private static void numbersKeptAndPassed() {
        Bench.sentence("a NUMBER (digits, or - and digits, -2147483648 .. 2147483647)");
        BigInteger two = BigInteger.TWO;
        for (int bits : new int[] {31, 32, 33, 40, 62, 63, 64, 65, 96, 128, 256}) {
            for (int more = -2; more <= 2; more++) {
                number(two.pow(bits).add(BigInteger.valueOf(more)));
                number(two.pow(bits).negate().add(BigInteger.valueOf(more)));
            }
        }
        for (int digits : new int[] {9, 10, 11, 18, 19, 20, 40, 300}) {
            number(BigInteger.TEN.pow(digits).subtract(BigInteger.ONE));
            number(BigInteger.TEN.pow(digits));
            number(BigInteger.TEN.pow(digits).negate());
        }
        for (int last = 0; last < 10; last++) {
            number(new BigInteger("214748364" + last));
            number(new BigInteger("-214748364" + last));
            number(new BigInteger("2147483647" + last));
        }
        for (int small = -11; small <= 11; small++) {
            number(BigInteger.valueOf(small));
        }
    }

    /** As it is, and with zeros before it, which change no value. */
    private static void number(BigInteger value) {
        boolean good = value.compareTo(LEAST) >= 0 && value.compareTo(MOST) <= 0;
        String digits = value.abs().toString();
        for (String zeros : new String[] {"", "0", "0".repeat(30)}) {
            String text = (value.signum() < 0 ? "-" : "") + zeros + digits;
            Bench bench = new Bench();
            bench.refused("p(" + text + ").", good ? 0 : 1, good ? -1 : 2);
            if (good) {
                bench.run(1);
                bench.ask("p(X)", 1);
                bench.isNumber(0, 0, true);
                bench.number(0, 0, value);
            } else {
                bench.run(0);
                bench.askRefused("q(a), q(" + text + ")", 1, 8);
                bench.stageRefused("q(" + text + ")", 1, 2);
            }
        }
    }

    private static void numbersWhereverTheyStand() {
        Bench.sentence("a NUMBER is too great or too small (wherever it stands)");
        String[] before = {"", "p. ", "p ", "p(", "p(a ", "p(a) ", "p :- ", "p :- not ", "p :- q ",
            "p :- q(a) ", "p :- a = ", "p :- a = b ", "p :- 1 ", "p :- X "};
        for (String text : before) {
            int place = text.length();
            Bench.refusedAlone(text + "2147483648", 1, place);
            Bench.refusedAlone(text + "-2147483649", 1, place);
            Bench.refusedAlone(text + "4294967296", 1, place);
            boolean mayStand = text.equals("p(") || text.equals("p :- ") || text.equals("p :- a = ");
            Bench.refusedAlone(text + "2147483647", 2, mayStand ? place + 10 : place);
        }
        Bench bench = Bench.with("p(a).", 1);
        bench.askRefused("p(a) 2147483648", 1, 5);
        bench.askRefused("2147483648", 1, 0);
        bench.stageRefused("2147483648", 1, 0);
        bench.stageRefused("p(a) -2147483649", 1, 5);
        bench.stratumRefused("2147483648", 1, 0);
        bench.stratumRefused("p -2147483649", 1, 2);
        bench.stratumRefused("p -2147483648", 2, 2);
    }

    private static void signs() {
        Bench.sentence("and ( ) , . :- = != < <= > >=");
        String[] signs = {"(", ")", ",", ".", ":-", "=", "!=", "<", "<=", ">", ">="};
        for (String sign : signs) {
            Bench.refusedAlone(sign, 2, 0);
            Bench.refusedAlone("p. " + sign, 2, 3);
            Bench bench = new Bench();
            bench.stratumRefused("p" + sign, 2, 1);
        }
        for (String bad : new String[] {":", "!", "-", ": -", "! =", "-a", "--1", "&", "?-", "/", "\""}) {
            Bench.refusedAlone(bad, 1, 0);
            Bench.refusedAlone("p " + bad, 1, 2);
        }
    }

    // ---------------------------------------------------------------- what may stand where

    private static void clauses() {
        Bench.sentence("A PROGRAM is CLAUSES, none or more: an ATOM and . or an ATOM, :- , a BODY and .");
        Bench bench = new Bench();
        bench.load("", -1);
        bench.counts(0, 0, 0, 0, -1, 0, -1);
        bench.load(" \t\r\n% p.\n", -1);
        bench.counts(0, 0, 0, 0, -1, 0, -1);
        bench.load("p.", -1);
        bench.counts(1, 1, 0, 1, -1, 0, -1);
        bench.load("p.p:-p.p:-p.", -1);
        bench.counts(3, 1, 0, 1, -1, 0, -1);
        Bench.refusedAlone("p q.", 2, 2);
        Bench.refusedAlone("p,q.", 2, 1);
        Bench.refusedAlone("p = q.", 2, 2);
        Bench.refusedAlone("p(a) = q.", 2, 5);
        Bench.refusedAlone(":- p.", 2, 0);
        Bench.refusedAlone(".", 2, 0);
        Bench.refusedAlone("p. . q.", 2, 3);
        Bench.refusedAlone("p(a).)", 2, 5);
        Bench.refusedAlone("p :- q :- r.", 2, 7);
    }

    private static void bodies() {
        Bench.sentence("a BODY is LITERALs with , between: an ATOM, not and an ATOM, or a TERM, "
            + "one of = != < <= > >= and a TERM");
        Bench.taken("p :- q(X), X = a, a < X, 1 <= X, X != b, not r(X), not s, X > 1, 1 >= 1.");
        Bench.refusedAlone("p :- .", 2, 5);
        Bench.refusedAlone("p :- ,q.", 2, 5);
        Bench.refusedAlone("p :- q,.", 2, 7);
        Bench.refusedAlone("p :- q,,q.", 2, 7);
        Bench.refusedAlone("p :- q r.", 2, 7);
        Bench.refusedAlone("p :- q(a) r.", 2, 10);
        Bench.refusedAlone("p :- (q).", 2, 5);
        Bench.refusedAlone("p :- not X.", 2, 9);
        Bench.refusedAlone("p :- not 1 = 1.", 2, 9);
        Bench.refusedAlone("p :- not (q).", 2, 9);
        Bench.refusedAlone("p :- q not r.", 2, 7);
        Bench.refusedAlone("p :- X.", 2, 6);
        Bench.refusedAlone("p :- 1.", 2, 6);
        Bench.refusedAlone("p :- 1, q.", 2, 6);
        Bench.refusedAlone("p :- X(a).", 2, 6);
        Bench.refusedAlone("p :- = a.", 2, 5);
        Bench.refusedAlone("p :- a = .", 2, 9);
        Bench.refusedAlone("p :- a = , q.", 2, 9);
        Bench.refusedAlone("p :- a = b = c.", 2, 11);
        Bench.refusedAlone("p :- a = q(b).", 2, 10);
        Bench.refusedAlone("p :- q(b) = a.", 2, 10);
        Bench bench = Bench.with("p. q(a).", 2);
        // Whether the a or the = cannot stand there, the document leaves open.
        bench.load("p :- not a = b.", null);
        bench.fault(2);
        bench.askRefused("p.", 2, 1);
        bench.askRefused("p,", 2, 2);
        bench.askRefused("p q(a)", 2, 2);
        bench.askRefused("p :- q(a)", 2, 2);
        bench.askRefused("", 2, 0);
        bench.askRefused("X", 2, 1);
        bench.askRefused("q(X), X", 2, 7);
        bench.askRefused("q(X), X <", 2, 9);
    }

    private static void atoms() {
        Bench.sentence("An ATOM is a NAME, or a NAME and ( TERMs with , between ), one at least");
        Bench.taken("p. q(a). r(a,b). s :- p, q(a), not p, not q(b).");
        Bench.refusedAlone("p().", 2, 2);
        Bench.refusedAlone("p( ).", 2, 3);
        Bench.refusedAlone("p(,a).", 2, 2);
        Bench.refusedAlone("p(a,).", 2, 4);
        Bench.refusedAlone("p(a,,b).", 2, 4);
        Bench.refusedAlone("p(a b).", 2, 4);
        Bench.refusedAlone("p(a(b)).", 2, 3);
        Bench.refusedAlone("p((a)).", 2, 2);
        Bench.refusedAlone("p(a)) .", 2, 4);
        Bench.refusedAlone("p(a)(b).", 2, 4);
        Bench.refusedAlone("p(a=b).", 2, 3);
        Bench.refusedAlone("p(a.", 2, 3);
        Bench.refusedAlone("p :- q().", 2, 7);
        Bench.refusedAlone("p :- not q().", 2, 11);
        Bench bench = Bench.with("p. q(a).", 2);
        bench.askRefused("q()", 2, 2);
        bench.stageRefused("q()", 2, 2);
        bench.stageRefused("q(a,)", 2, 4);
        bench.stageRefused("q(a)(a)", 2, 4);
        bench.stage("q ( a )", 0);
        bench.stage(" p ", 0);
    }

    private static void terms() {
        Bench.sentence("A TERM is a NAME, a VARIABLE or a NUMBER");
        String[] sides = {"a", "1", "X"};
        for (String left : sides) {
            for (String right : sides) {
                for (String sign : new String[] {"=", "!=", "<", "<=", ">", ">="}) {
                    Bench.taken("p(" + left + "," + right + ") :- q(X), " + left + sign + right + ".");
                }
            }
        }
        for (String none : new String[] {"not", "(", ")", ",", ".", ":-", "=", "!=", "<", ">="}) {
            Bench.refusedAlone("p(" + none, 2, 2);
            Bench.refusedAlone("p(a," + none, 2, 4);
            Bench.refusedAlone("p:-a=" + none, 2, 5);
        }
    }

    private static void nameWithASignBehind() {
        Bench.sentence("(A NAME in a BODY with one of those signs behind it is a TERM.)");
        for (String sign : new String[] {"=", "!=", "<", "<=", ">", ">="}) {
            for (String between : new String[] {"", " ", "\n", " % a\n\t"}) {
                Bench bench = new Bench();
                bench.load("p:-a" + between + sign + between + "b,c" + between + sign + "1.", -1);
                bench.counts(1, 1, 4);
                bench.run(sign.equals("!=") ? 1 : 0);
                bench.ask("p" + between + sign + " p", sign.equals("=") || sign.length() == 2
                    && !sign.equals("!=") ? 1 : 0);
            }
        }
        Bench bench = new Bench();
        bench.load("p:-a. a. p:-a<b.", -1);
        bench.counts(3, 2, 2);
        bench.run(2);
        // A NAME of a head is none: the sign cannot stand behind it.
        bench.refused("a=b.", 2, 1);
    }

    private static void nameless() {
        Bench.sentence("The VARIABLE _ is another one wherever it stands");
        Bench bench = Bench.with("q(1,2). q(3,3). r(2). s(9). p(X):-q(X,_),r(_). t:-q(_,_),s(_).", 7);
        bench.ask("q(_,_)", 1);
        bench.columns(0);
        bench.ask("q(_,X),r(_)", 2);
        bench.ask("q(X,_),q(_,X)", 1);
        bench.rows("3;");
        bench.ask("q(__,__)", 1);
        bench.rows("3;");
        bench.ask("q(_a,_b)", 2);
        bench.ask("s(_),q(_,_),r(_)", 1);
        bench.refused("p(_):-q(_).", 11, 2);
        bench.refused("p:-q(_), _ = 1.", 11, 9);
        bench.refused("p:-q(_), not r(_).", 11, 15);
    }

    // ---------------------------------------------------------------- places

    private static void atTheFirstByte() {
        Bench.sentence("FAULTS, each at the first byte of a token");
        Bench.refusedAlone("p \n\t% x\n  abc.", 2, 10);
        Bench.refusedAlone("p \n\t% x\n  -9999999999.", 1, 10);
        Bench.refusedAlone("p \n\t% x\n  >=.", 2, 10);
        Bench.refusedAlone("  Abc.", 2, 2);
        Bench.refusedAlone("p(a,b,c,d,e,f, % x\n abc", 3, 20);
        Bench.refusedAlone("pp(a). % x\n  pp.", 10, 13);
        Bench.refusedAlone("pp(a, % x\n  Abc).", 11, 12);
        Bench.refusedAlone("pp(a) :- % x\n  not % x\n pp(a).", 12, 15);
        Bench bench = Bench.with("p(a).", 1);
        bench.askRefused(" % x\n p(a) % x\n p", 2, 16);
        bench.askRefused(" % x\n p(a,a)", 10, 6);
        bench.askRefused("p(a), % x\n Abc = a", 11, 11);
        bench.stageRefused(" % x\n p(a) % x\n p", 2, 16);
        bench.stageRefused(" % x\n p", 10, 6);
        bench.stageRefused("p( % x\n Abc)", 2, 8);
        bench.stratumRefused(" % x\n Abc", 2, 6);
        bench.stratumRefused(" % x\n p % x\n p", 2, 13);
    }

    private static void atTheEnd() {
        Bench.sentence("FAULTS, each at the first byte of a token (or at the end)");
        String[] cut = {"p", "p(", "p(a", "p(a,", "p(a,1", "p(a)", "p :-", "p :- q", "p :- q,",
            "p :- q(", "p :- q(X", "p :- q(X)", "p :- not", "p :- not q", "p :- a =", "p :- a = b",
            "p :- X", "p :- X <=", "p. q"};
        for (String text : cut) {
            Bench.refusedAlone(text, 2, text.length());
            Bench.refusedAlone(text + "  \n", 2, text.length() + 3);
            Bench.refusedAlone(text + " % x", 2, text.length() + 4);
        }
        Bench bench = Bench.with("p(a).", 1);
        for (String text : new String[] {"", "  ", "% x", "p(", "p(a,", "p(a"}) {
            bench.askRefused(text, 2, text.length());
            bench.stageRefused(text, 2, text.length());
        }
        bench.askRefused("p(a), ", 2, 6);
        for (String text : new String[] {"", "  ", "% x"}) {
            bench.stratumRefused(text, 2, text.length());
        }
    }

    private static void noToken() {
        Bench.sentence("1: no token begins there, at each place of a text");
        String[] before = {"", "p", "p(", "p(a", "p(a,", "p(a)", "p(a) :-", "p :- q", "p :- q(",
            "p :- q(X", "p :- q(X)", "p :- q,", "p :- not", "p :- not q", "p :- a =", "p :- a = b",
            "p :- X", "p.", "p. q"};
        for (String text : before) {
            for (String bad : new String[] {"#", "-", ":", "!", "\u0000", "\u00e9", "\u00ff"}) {
                Bench.refusedAlone(text + " " + bad, 1, text.length() + 1);
            }
            Bench.refusedAlone(text + "#", 1, text.length());
        }
        Bench bench = Bench.with("p(a).", 1);
        for (String text : new String[] {"", "p", "p(", "p(a", "p(a)"}) {
            bench.askRefused(text + "#", 1, text.length());
            bench.stageRefused(text + "#", 1, text.length());
        }
        bench.stratumRefused("#", 1, 0);
        bench.stratumRefused("p#", 1, 1);
    }
}
