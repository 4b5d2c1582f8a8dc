/** The promises of the document, one method each: what is due stands beside what was answered. */
public final class PromiseTests {
    private static int wrong = 0;

    public static void main(String[] args) {
        newObject();
        System.out.println(wrong == 0 ? "PromiseTests: all answers are as due" : wrong + " wrong");
        System.exit(wrong == 0 ? 0 : 1);
    }

    private static void due(String what, long got, long want) {
        if (got != want) {
            wrong++;
            System.out.println(what + " answered " + got + ", due is " + want);
        }
    }

    private static void newObject() {
        StrataBase base = new StrataBase();
        due("new: fault", base.fault(), 0);
        due("new: clauses", base.count(0), 0);
        due("new: facts", base.count(4), -1);
    }
}
