import java.util.function.Supplier;

/**
 * One object under test. Each call is told with the answer that is due: a number, or the name of
 * the exception; null if it is only to be told in the log. Texts stand in place of words.
 */
final class Bench {
    static final String STATE = "IllegalStateException";
    static final String ARGUMENT = "IllegalArgumentException";
    static final String INDEX = "IndexOutOfBoundsException";
    static final String UNSUPPORTED = "UnsupportedOperationException";
    /** The document promises nothing about later calls, so no test may lean on them. */
    static final int PROMISED_CALLS = 512;
    private static final int BYTES_A_FEED = 20;
    private static final long SUITE_MILLISECONDS = 300000;

    private static int wrong = 0;
    private static int checked = 0;
    private static volatile String sentence = "";

    final StringBuilder log = new StringBuilder();
    private final StrataBase base = new StrataBase();
    private final int callLimit;
    private int calls = 0;
    private int tapeLength = 0;

    Bench() {
        this(PROMISED_CALLS);
    }

    Bench(int callLimit) {
        this.callLimit = callLimit;
    }

    // ---------------------------------------------------------------- what was found

    /** The words of the document that the next checks are about. */
    static void sentence(String words) {
        sentence = words;
    }

    static void due(String what, Object got, Object want) {
        checked++;
        if (!got.toString().equals(want.toString())) {
            wrong++;
            System.out.println("\"" + sentence + "\": " + what + " answered " + got + ", due is " + want);
        }
    }

    /** A call that does not end is a fault too: no suite takes as long as this by far. */
    static void watch() {
        Thread guard = new Thread(() -> {
            try {
                Thread.sleep(SUITE_MILLISECONDS);
            } catch (InterruptedException e) {
                return;
            }
            System.out.println("\"" + sentence + "\": the tests do not end");
            Runtime.getRuntime().halt(1);
        });
        guard.setDaemon(true);
        guard.start();
    }

    static void finish(String suite) {
        System.out.println(suite + ": " + checked + " answers, " + wrong + " wrong");
        System.exit(wrong == 0 ? 0 : 1);
    }

    // ---------------------------------------------------------------- the calls

    void feed(int a, int b, int c, int d, int e, Object want) {
        String got = answer(() -> base.feed(a, b, c, d, e));
        if (isNumber(got)) {
            tapeLength += BYTES_A_FEED;
        }
        tell("feed", got, want);
    }

    void end(int n, Object want) {
        String got = answer(() -> {
            base.end(n);
            return "nothing";
        });
        if (got.equals("nothing")) {
            tapeLength = n;
        }
        tell("end " + n, got, want);
    }

    void load(Object want) {
        tell("load", read(() -> base.load()), want);
    }

    void ask(Object want) {
        tell("ask", read(() -> base.ask()), want);
    }

    void stage(Object want) {
        tell("stage", read(() -> base.stage()), want);
    }

    void stratum(Object want) {
        tell("stratum", read(() -> base.stratum()), want);
    }

    void fault(Object want) {
        tell("fault", answer(() -> base.fault()), want);
    }

    void run(Object want) {
        tell("run", answer(() -> base.run()), want);
    }

    void columns(Object want) {
        tell("columns", answer(() -> base.columns()), want);
    }

    void isNumber(int row, int column, Object want) {
        tell("isNumber " + row + " " + column, answer(() -> base.isNumber(row, column)), want);
    }

    void number(int row, int column, Object want) {
        tell("number " + row + " " + column, answer(() -> base.number(row, column)), want);
    }

    void letter(int row, int column, int k, Object want) {
        tell("letter " + row + " " + column + " " + k,
            answer(() -> base.letter(row, column, k)), want);
    }

    void count(int what, Object want) {
        tell("count " + what, answer(() -> base.count(what)), want);
    }

    // ---------------------------------------------------------------- calls with a text

    void load(String text, Object want) {
        put(text);
        tell("load " + shown(text), read(() -> base.load()), want);
    }

    void ask(String text, Object want) {
        put(text);
        tell("ask " + shown(text), read(() -> base.ask()), want);
    }

    void stage(String text, Object want) {
        put(text);
        tell("stage " + shown(text), read(() -> base.stage()), want);
    }

    void stratum(String text, Object want) {
        put(text);
        tell("stratum " + shown(text), read(() -> base.stratum()), want);
    }

    /** Puts a text behind what the tape has; the last feed is cut to the text's end. */
    void put(String text) {
        int[] words = new int[5];
        int length = tapeLength + text.length();
        for (int from = 0; from < text.length(); from += BYTES_A_FEED) {
            for (int w = 0; w < words.length; w++) {
                words[w] = wordAt(text, from + 4 * w);
            }
            feed(words[0], words[1], words[2], words[3], words[4], tapeLength + BYTES_A_FEED);
        }
        if (length < tapeLength) {
            end(length, "nothing");
        }
    }

    /** Four bytes of a text, the first one highest; 0 behind its end. */
    static int wordAt(String text, int from) {
        int word = 0;
        for (int at = from; at < from + 4; at++) {
            word = word << 8 | (at < text.length() ? text.charAt(at) & 255 : 0);
        }
        return word;
    }

    // ---------------------------------------------------------------- several calls

    /** A program that is refused, with its fault and an empty tape; or not, with code 0. */
    void refused(String text, int code, int place) {
        load(text, place);
        faulted(code);
    }

    void askRefused(String text, int code, int place) {
        ask(text, -1 - place);
        faulted(code);
    }

    void stageRefused(String text, int code, int place) {
        stage(text, -2 - place);
        faulted(code);
    }

    void stratumRefused(String text, int code, int place) {
        stratum(text, -2 - place);
        faulted(code);
    }

    private void faulted(int code) {
        fault(code);
        end(1, ARGUMENT);
    }

    /** Each text has an object of its own, so that none is used for too many calls. */
    static void refusedAlone(String text, int code, int place) {
        new Bench().refused(text, code, place);
    }

    static void taken(String text) {
        new Bench().refused(text, 0, -1);
    }

    /** An object with a program that was run. */
    static Bench with(String program, int facts) {
        Bench bench = new Bench();
        bench.load(program, -1);
        bench.run(facts);
        return bench;
    }

    /** The first seven counts. */
    void counts(int... want) {
        for (int what = 0; what < want.length; what++) {
            count(what, want[what]);
        }
    }

    /** All rows, as 1,a;2,b; */
    void rows(String want) {
        tell("rows", rows(), want);
    }

    /** The three calls that name a row and a column refuse alike. */
    void noCell(int row, int column) {
        isNumber(row, column, INDEX);
        number(row, column, INDEX);
        letter(row, column, 0, INDEX);
    }

    private String rows() {
        StringBuilder out = new StringBuilder();
        int size = base.count(5);
        int width = base.columns();
        calls += 2;
        for (int row = 0; row < size; row++) {
            for (int column = 0; column < width; column++) {
                out.append(column > 0 ? "," : "").append(cell(row, column));
            }
            out.append(';');
        }
        return out.toString();
    }

    private String cell(int row, int column) {
        calls += 2;
        int number = base.number(row, column);
        if (base.isNumber(row, column)) {
            return Integer.toString(number);
        }
        StringBuilder name = new StringBuilder();
        for (int k = 0; k < number; k++) {
            name.append((char) base.letter(row, column, k));
            calls++;
        }
        return name.toString();
    }

    /** What can be asked without a change; the fault only if it is to be the same too. */
    String seen(boolean withFault) {
        StringBuilder out = new StringBuilder();
        for (int what = 0; what <= 6; what++) {
            out.append(base.count(what)).append(' ');
        }
        out.append(base.columns()).append(' ').append(withFault ? base.fault() : 0).append(' ');
        calls += 9;
        return out.append(rows()).toString();
    }

    int tapeLength() {
        return tapeLength;
    }

    int callsLeft() {
        return callLimit - calls;
    }

    // ---------------------------------------------------------------- inside

    /** A call that answers leaves an empty tape; one that throws leaves it as it was. */
    private String read(Supplier<Object> call) {
        String got = answer(call);
        if (isNumber(got)) {
            tapeLength = 0;
        }
        return got;
    }

    private String answer(Supplier<Object> call) {
        calls++;
        try {
            return String.valueOf(call.get());
        } catch (RuntimeException e) {
            return e.getClass().getSimpleName();
        }
    }

    private static boolean isNumber(String answer) {
        return answer.charAt(0) == '-' || Character.isDigit(answer.charAt(0));
    }

    private void tell(String call, String got, Object want) {
        log.append(call).append(" -> ").append(got).append('\n');
        if (want != null) {
            due(call, got, want);
        }
        if (calls > callLimit) {
            due(call + ": calls of one object", calls, "at most " + callLimit);
        }
    }

    private static String shown(String text) {
        return text.length() > 70 ? ".. " + text.substring(text.length() - 60) : text;
    }

    // ---------------------------------------------------------------- texts

    /** before0behind before1behind and so on, up to before the last. */
    static String numbered(String before, int from, int to, String behind) {
        StringBuilder out = new StringBuilder();
        for (int i = from; i < to; i++) {
            out.append(before).append(i).append(behind);
        }
        return out.toString();
    }

    /** name(0).name(1). and so on. */
    static String facts(String name, int amount) {
        return numbered(name + "(", 0, amount, ").");
    }

    /** name(0,1).name(1,2). and so on. */
    static String steps(String name, int amount) {
        StringBuilder out = new StringBuilder();
        for (int i = 0; i < amount; i++) {
            out.append(name).append('(').append(i).append(',').append(i + 1).append(").");
        }
        return out.toString();
    }

    /** word0,word1 and so on, up to before the last. */
    static String list(String word, int from, int to) {
        return numbered(word, from, to - 1, ",") + word + (to - 1);
    }

    /** Facts of five terms: the constants word0, word1 and so on, each once. */
    static String constants(String name, String word, int amount) {
        StringBuilder out = new StringBuilder();
        for (int i = 0; i < amount; i += 5) {
            out.append(name).append('(').append(list(word, i, i + 5)).append(").");
        }
        return out.toString();
    }
}
