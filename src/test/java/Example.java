/** The example of README.md: behind each call of show stands what it prints. */
public final class Example {
    public static void main(String[] arguments) {
        StrataBase base = new StrataBase();
        write(base, "road(1,2). road(2,3). road(3,harbour). % the map\n"
            + "way(X,Y) :- road(X,Y). way(X,Z) :- way(X,Y), road(Y,Z).\n"
            + "place(X) :- road(X,_). place(X) :- road(_,X).\n"
            + "cut(X,Y) :- place(X), place(Y), X != Y, not way(X,Y).");
        show(base.load());           // -1, as the text has no fault
        show(base.count(0));         // 8 clauses
        show(base.run());            // 19 facts follow

        write(base, "way(2,Where)");
        show(base.ask());            // 2 rows
        show(base.columns());        // 1 column
        show(base.isNumber(0, 0));   // true, as numbers stand before names
        show(base.number(0, 0));     // 3
        show(base.isNumber(1, 0));   // false
        show(base.number(1, 0));     // 7 bytes has the name
        show(base.letter(1, 0, 0));  // 104, the byte h of harbour

        write(base, "way(1,harbour)");
        show(base.stage());          // 3: it needs way(1,3), which came at stage 2
        write(base, "way(harbour,1)");
        show(base.stage());          // -1, as it does not follow
        write(base, "cut");
        show(base.stratum());        // 1, above way, which is 0

        write(base, "way(1,2,3)");
        show(base.ask());            // -1 less the place 0 of the fault
        show(base.fault());          // 10, as way has two terms
        show(base.count(5));         // 2 rows: those of the question before have stayed
        write(base, "odd(X) :- place(X), not even(Y).");
        show(base.load());           // 29, the place of the fault
        show(base.fault());          // 11, as Y stands in no atom without not
        show(base.count(4));         // 19: the program before has stayed
    }

    /** Puts a text on the empty tape: twenty bytes with each feed; end cuts the last ones off. */
    private static void write(StrataBase base, String text) {
        for (int at = 0; at < text.length(); at += 20) {
            base.feed(four(text, at), four(text, at + 4), four(text, at + 8),
                four(text, at + 12), four(text, at + 16));
        }
        base.end(text.length());
    }

    private static int four(String text, int at) {
        int bytes = 0;
        for (int i = at; i < at + 4; i++) {
            bytes = bytes << 8 | (i < text.length() ? text.charAt(i) : 0);
        }
        return bytes;
    }

    private static void show(Object answer) {
        System.out.println(answer);
    }
}
