import java.util.Arrays;

/**
 * Facts and rules with negation, read from a tape of bytes: a program is refused at its first
 * fault, or all that follows from it is made, stratum by stratum.
 */
public final class StrataBase {
    public static final int NONE = -1;

    private static final int TAPE_LIMIT = 65536;
    private static final int FEED_BYTES = 20;

    private final byte[] tape;
    private int tapeLength;
    private int faultCode;
    // A text is read into the spare, so that a refused one leaves the program as it was.
    private Program program;
    private Program spare;
    private final Clauses question;
    private final Reader reader;
    private final Facts facts;
    private final Join join;
    private Rows rows;
    private Rows spareRows;
    private boolean ran;
    private boolean overflowed;

    public StrataBase() {
        tape = new byte[TAPE_LIMIT];
        program = new Program();
        spare = new Program();
        question = new Clauses(1);
        reader = new Reader();
        facts = new Facts();
        join = new Join(facts);
        rows = new Rows();
        spareRows = new Rows();
    }

    public int feed(int a, int b, int c, int d, int e) throws UnsupportedOperationException {
        if (tapeLength + FEED_BYTES > TAPE_LIMIT) {
            throw new UnsupportedOperationException();
        }
        putBytes(a);
        putBytes(b);
        putBytes(c);
        putBytes(d);
        putBytes(e);
        return tapeLength;
    }

    public void end(int n) throws IllegalArgumentException {
        if (n < 0 || n > tapeLength) {
            throw new IllegalArgumentException();
        }
        tapeLength = n;
    }

    public int load() {
        reader.read(Reader.PROGRAM, tape, tapeLength, spare, spare.clauses);
        reader.checkCycle();
        forgetTape();
        if (faultCode != 0) {
            return reader.place;
        }
        Program old = program;
        program = spare;
        spare = old;
        program.settle();
        rows.open(0, 0);
        ran = false;
        overflowed = false;
        return NONE;
    }

    public int fault() {
        return faultCode;
    }

    public int run() throws UnsupportedOperationException {
        if (!ran && !overflowed) {
            facts.clear();
            join.forgetIndexes();
            for (int level = 0; level < program.strataCount && !facts.full; level++) {
                join.closeStratum(program, level);
            }
            ran = !facts.full;
            overflowed = facts.full;
        }
        if (overflowed) {
            throw new UnsupportedOperationException();
        }
        return facts.size;
    }

    public int ask() throws IllegalStateException, UnsupportedOperationException {
        if (!ran) {
            throw new IllegalStateException();
        }
        reader.read(Reader.QUESTION, tape, tapeLength, program, question);
        if (reader.code == 0) {
            spareRows.open(reader.variables.size, reader.anonymous);
            join.answer(question, spareRows);
            if (spareRows.full) {
                throw new UnsupportedOperationException();
            }
        }
        forgetTape();
        if (faultCode != 0) {
            return -1 - reader.place;
        }
        Rows old = rows;
        rows = spareRows;
        spareRows = old;
        rows.sort();
        return rows.size;
    }

    public int columns() {
        return rows.width;
    }

    public boolean isNumber(int row, int column) throws IndexOutOfBoundsException {
        if (!rows.has(row, column)) {
            throw new IndexOutOfBoundsException();
        }
        return program.constants.lengthAt(rows.rankAt(row, column)) == 0;
    }

    public int number(int row, int column) throws IndexOutOfBoundsException {
        if (!rows.has(row, column)) {
            throw new IndexOutOfBoundsException();
        }
        int rank = rows.rankAt(row, column);
        int length = program.constants.lengthAt(rank);
        return length == 0 ? program.constants.valueAt(rank) : length;
    }

    public int letter(int row, int column, int k) throws IndexOutOfBoundsException {
        if (!rows.has(row, column)) {
            throw new IndexOutOfBoundsException();
        }
        int rank = rows.rankAt(row, column);
        // A number has length 0, so no k is below its length.
        if (k < 0 || k >= program.constants.lengthAt(rank)) {
            throw new IndexOutOfBoundsException();
        }
        return program.constants.byteAt(rank, k);
    }

    public int stage() throws IllegalStateException {
        if (!ran) {
            throw new IllegalStateException();
        }
        reader.read(Reader.FACT, tape, tapeLength, program, question);
        forgetTape();
        if (faultCode != 0) {
            return -2 - reader.place;
        }
        int predicate = question.predicates[0];
        int fact = predicate == NONE ? NONE : facts.find(predicate, question.keyOf(0, join.values));
        return fact == NONE ? NONE : facts.stages[fact];
    }

    public int stratum() {
        reader.read(Reader.WORD, tape, tapeLength, program, question);
        forgetTape();
        if (faultCode != 0) {
            return -2 - reader.place;
        }
        int predicate = question.predicates[0];
        return predicate == NONE ? NONE : program.strata[predicate];
    }

    public int count(int what) throws IllegalArgumentException {
        switch (what) {
            case 0:
                return program.clauses.size;
            case 1:
                return program.predicates.size;
            case 2:
                return program.constants.size();
            case 3:
                return program.strataCount;
            case 4:
                return ran ? facts.size : NONE;
            case 5:
                return rows.size;
            case 6:
                return ran ? facts.highest : NONE;
            default:
                throw new IllegalArgumentException();
        }
    }

    private void putBytes(int word) {
        for (int shift = 24; shift >= 0; shift -= 8) {
            tape[tapeLength] = (byte) (word >> shift);
            tapeLength++;
        }
    }

    private void forgetTape() {
        faultCode = reader.code;
        tapeLength = 0;
    }

    /** Cuts the tape into tokens, one with each call of next. */
    private static final class Tokens {
        static final int END = 0;
        static final int BAD = 1;
        static final int NAME = 2;
        static final int VARIABLE = 3;
        static final int NUMBER = 4;
        static final int NOT = 5;
        static final int OPEN = 6;
        static final int CLOSE = 7;
        static final int COMMA = 8;
        static final int DOT = 9;
        static final int IF = 10;
        static final int EQUAL = 11;
        static final int UNEQUAL = 12;
        static final int LESS = 13;
        static final int AT_MOST = 14;
        static final int GREATER = 15;
        static final int AT_LEAST = 16;

        private static final long SMALLEST = -2147483648L;
        private static final long GREATEST = 2147483647L;
        // Above every NUMBER, and small enough that ten times it is still a long.
        private static final long TOO_GREAT = 1L << 40;

        byte[] text;
        int kind;
        int start;
        int stop;
        int value;
        private int length;

        void open(byte[] newText, int newLength) {
            text = newText;
            length = newLength;
            stop = 0;
        }

        void next() {
            skipBlanks();
            start = stop;
            value = 0;
            if (stop >= length) {
                kind = END;
            } else if (isWordByte(text[stop]) && !isDigit(text[stop])) {
                readWord();
            } else if (isDigit(text[stop]) || text[stop] == '-') {
                readNumber();
            } else {
                readSign();
            }
        }

        boolean isComparison() {
            return kind >= EQUAL;
        }

        boolean isConstant() {
            return kind == NAME || kind == NUMBER;
        }

        /** How many bytes a NAME has; 0 of a NUMBER, which is known by its value. */
        int nameLength() {
            return kind == NUMBER ? 0 : stop - start;
        }

        private void skipBlanks() {
            boolean comment = false;
            while (stop < length && (comment || isBlank(text[stop]) || text[stop] == '%')) {
                comment = comment ? text[stop] != 10 : text[stop] == '%';
                stop++;
            }
        }

        private void readWord() {
            boolean small = isSmall(text[stop]);
            while (stop < length && isWordByte(text[stop])) {
                stop++;
            }
            if (small) {
                kind = isNot() ? NOT : NAME;
            } else {
                kind = VARIABLE;
            }
        }

        private boolean isNot() {
            return stop - start == 3
                && text[start] == 'n' && text[start + 1] == 'o' && text[start + 2] == 't';
        }

        private void readNumber() {
            boolean minus = text[stop] == '-';
            if (minus) {
                stop++;
            }
            int digits = stop;
            long sum = 0;
            while (stop < length && isDigit(text[stop])) {
                sum = Math.min(sum * 10 + text[stop] - '0', TOO_GREAT);
                stop++;
            }
            sum = minus ? -sum : sum;
            kind = stop > digits && sum >= SMALLEST && sum <= GREATEST ? NUMBER : BAD;
            value = (int) sum;
        }

        private void readSign() {
            int sign = text[stop];
            stop++;
            switch (sign) {
                case '(':
                    kind = OPEN;
                    break;
                case ')':
                    kind = CLOSE;
                    break;
                case ',':
                    kind = COMMA;
                    break;
                case '.':
                    kind = DOT;
                    break;
                case '=':
                    kind = EQUAL;
                    break;
                case ':':
                    kind = takes('-') ? IF : BAD;
                    break;
                case '!':
                    kind = takes('=') ? UNEQUAL : BAD;
                    break;
                case '<':
                    kind = takes('=') ? AT_MOST : LESS;
                    break;
                case '>':
                    kind = takes('=') ? AT_LEAST : GREATER;
                    break;
                default:
                    kind = BAD;
            }
        }

        private boolean takes(int second) {
            boolean there = stop < length && text[stop] == second;
            if (there) {
                stop++;
            }
            return there;
        }

        private static boolean isBlank(int c) {
            return c == 9 || c == 10 || c == 13 || c == 32;
        }

        private static boolean isDigit(int c) {
            return c >= '0' && c <= '9';
        }

        private static boolean isSmall(int c) {
            return c >= 'a' && c <= 'z';
        }

        private static boolean isWordByte(int c) {
            return isSmall(c) || c >= 'A' && c <= 'Z' || c == '_' || isDigit(c);
        }
    }

    /** A table of words, each with a number from 0 on. */
    private static final class Names {
        private static final int FIRST_ROOM = 256;

        int size;
        private final int[] starts;
        private final int[] lengths;
        private byte[] text;
        private int used;

        Names(int limit) {
            starts = new int[limit];
            lengths = new int[limit];
            text = new byte[FIRST_ROOM];
        }

        void clear() {
            size = 0;
            used = 0;
        }

        int find(byte[] source, int from, int length) {
            for (int id = 0; id < size; id++) {
                if (lengths[id] == length && compare(id, source, from, length) == 0) {
                    return id;
                }
            }
            return NONE;
        }

        /** The new word's number, or NONE if the table is full. */
        int add(byte[] source, int from, int length) {
            if (size >= starts.length) {
                return NONE;
            }
            if (used + length > text.length) {
                text = Arrays.copyOf(text, Math.max(used + length, 2 * text.length));
            }
            System.arraycopy(source, from, text, used, length);
            starts[size] = used;
            lengths[size] = length;
            used += length;
            size++;
            return size - 1;
        }

        int lengthOf(int id) {
            return lengths[id];
        }

        int byteOf(int id, int k) {
            return text[starts[id] + k];
        }

        /** Byte by byte, a beginning before what goes on. */
        int compare(int id, byte[] source, int from, int length) {
            int common = lengths[id] < length ? lengths[id] : length;
            for (int k = 0; k < common; k++) {
                int order = text[starts[id] + k] - source[from + k];
                if (order != 0) {
                    return order;
                }
            }
            return lengths[id] - length;
        }
    }

    /** Constants in their order; a NUMBER is a word of no bytes with its value, a NAME has 0. */
    private static final class Constants {
        private final Names names;
        private final int[] values;
        private final int[] byRank;
        private final int[] ranks;

        Constants(int limit) {
            names = new Names(limit);
            values = new int[limit];
            byRank = new int[limit];
            ranks = new int[limit];
        }

        void clear() {
            names.clear();
        }

        int size() {
            return names.size;
        }

        /** The constant's rank, or ~r if it would have rank r but is not here. */
        int search(byte[] source, int from, int length, int value) {
            int low = 0;
            int high = names.size;
            while (low < high) {
                int middle = (low + high) >>> 1;
                int order = names.compare(byRank[middle], source, from, length);
                if (order == 0) {
                    order = Integer.compare(values[byRank[middle]], value);
                }
                if (order == 0) {
                    return middle;
                }
                if (order < 0) {
                    low = middle + 1;
                } else {
                    high = middle;
                }
            }
            return ~low;
        }

        /** The number of a constant, which is added if it is new; NONE if there is no room. */
        int intern(byte[] source, int from, int length, int value) {
            int rank = search(source, from, length, value);
            if (rank >= 0) {
                return byRank[rank];
            }
            int id = names.add(source, from, length);
            if (id != NONE) {
                values[id] = value;
                System.arraycopy(byRank, ~rank, byRank, ~rank + 1, id - ~rank);
                byRank[~rank] = id;
            }
            return id;
        }

        /** Ranks change while constants come, so they are told when all have come. */
        void setRanks() {
            for (int rank = 0; rank < names.size; rank++) {
                ranks[byRank[rank]] = rank;
            }
        }

        int rankOf(int id) {
            return ranks[id];
        }

        int lengthAt(int rank) {
            return names.lengthOf(byRank[rank]);
        }

        int valueAt(int rank) {
            return values[byRank[rank]];
        }

        int byteAt(int rank, int k) {
            return names.byteOf(byRank[rank], k);
        }
    }

    /**
     * Literals in the order of the tape; a program's clause begins with its head, a question has
     * none. A term is a variable's number, or CONSTANT and the constant's code.
     */
    private static final class Clauses {
        static final int BODY_LIMIT = 12;
        static final int TERM_LIMIT = 6;
        static final int VARIABLE_LIMIT = 12;
        static final int CONSTANT = 16;
        // A literal's kind: one of these two, or the comparison's token.
        static final int ATOM = 0;
        static final int ABSENT = 1;

        int size;
        final int[] first;
        final int[] kinds;
        final int[] predicates;
        final int[] places;
        final int[] sizes;
        final int[] masks;
        private final int[] terms;
        private int literals;

        Clauses(int limit) {
            int room = limit * (1 + BODY_LIMIT);
            first = new int[limit + 1];
            kinds = new int[room];
            predicates = new int[room];
            places = new int[room];
            sizes = new int[room];
            masks = new int[room];
            terms = new int[room * TERM_LIMIT];
        }

        void clear() {
            size = 0;
            literals = 0;
        }

        void close() {
            size++;
            first[size] = literals;
        }

        void open(int kind, int place) {
            kinds[literals] = kind;
            places[literals] = place;
            predicates[literals] = NONE;
            sizes[literals] = 0;
            masks[literals] = 0;
            literals++;
        }

        int newest() {
            return literals - 1;
        }

        void add(int term) {
            int literal = literals - 1;
            setTerm(literal, sizes[literal], term);
            if (term < CONSTANT) {
                masks[literal] |= 1 << term;
            }
            sizes[literal]++;
        }

        int term(int literal, int column) {
            return terms[literal * TERM_LIMIT + column];
        }

        void setTerm(int literal, int column, int term) {
            terms[literal * TERM_LIMIT + column] = term;
        }

        boolean hasBody(int clause) {
            return first[clause + 1] - first[clause] > 1;
        }

        /** The fact that an atom is, when its variables are constants of these ranks. */
        long keyOf(int literal, int[] values) {
            long key = 0;
            for (int column = 0; column < sizes[literal]; column++) {
                int term = term(literal, column);
                long rank = term < CONSTANT ? values[term] : term - CONSTANT;
                key |= rank << Facts.shiftOf(column);
            }
            return key;
        }

        /**
         * What a comparison's side is compared by: a program's constants have odd codes, so that
         * another constant of a question can stand between two of them.
         */
        private int orderCode(int literal, int column, int[] values) {
            int term = terms[literal * TERM_LIMIT + column];
            return term < CONSTANT ? 2 * values[term] + 1 : term - CONSTANT;
        }

        static int codeOfRank(int rank) {
            return 2 * rank + 1;
        }

        boolean compares(int literal, int[] values) {
            int left = orderCode(literal, 0, values);
            int right = orderCode(literal, 1, values);
            switch (kinds[literal]) {
                case Tokens.EQUAL:
                    return left == right;
                case Tokens.UNEQUAL:
                    return left != right;
                case Tokens.LESS:
                    return left < right;
                case Tokens.AT_MOST:
                    return left <= right;
                case Tokens.GREATER:
                    return left > right;
                default:
                    return left >= right;
            }
        }
    }

    /** A program's clauses, with their predicates, strata and constants. */
    private static final class Program {
        static final int CLAUSE_LIMIT = 256;
        static final int PREDICATE_LIMIT = 64;
        static final int CONSTANT_LIMIT = 1000;

        final Clauses clauses;
        final Names predicates;
        final int[] sizes;
        final int[] strata;
        final Constants constants;
        int strataCount;
        private final long[] reached;

        Program() {
            clauses = new Clauses(CLAUSE_LIMIT);
            predicates = new Names(PREDICATE_LIMIT);
            sizes = new int[PREDICATE_LIMIT];
            strata = new int[PREDICATE_LIMIT];
            constants = new Constants(CONSTANT_LIMIT);
            reached = new long[PREDICATE_LIMIT];
        }

        void clear() {
            clauses.clear();
            predicates.clear();
            constants.clear();
            Arrays.fill(sizes, NONE);
        }

        int headOf(int clause) {
            return clauses.predicates[clauses.first[clause]];
        }

        /** The place of the first not whose predicate depends on its clause's head, or NONE. */
        int placeOfCycle() {
            findReached();
            for (int clause = 0; clause < clauses.size; clause++) {
                int head = headOf(clause);
                for (int at = clauses.first[clause] + 1; at < clauses.first[clause + 1]; at++) {
                    if (clauses.kinds[at] == Clauses.ABSENT
                            && (reached[clauses.predicates[at]] >> head & 1) != 0) {
                        return clauses.places[at];
                    }
                }
            }
            return NONE;
        }

        /** What else must be known before a run: strata, and constants by rank. */
        void settle() {
            constants.setRanks();
            for (int literal = 0; literal <= clauses.newest(); literal++) {
                settleTerms(literal);
            }
            Arrays.fill(strata, 0);
            boolean changed = true;
            // Without a cycle through not, no stratum is above the number of predicates.
            for (int round = 0; round <= PREDICATE_LIMIT && changed; round++) {
                changed = raiseStrata();
            }
            strataCount = 0;
            for (int predicate = 0; predicate < predicates.size; predicate++) {
                strataCount = Math.max(strataCount, strata[predicate] + 1);
            }
        }

        private void findReached() {
            for (int predicate = 0; predicate < PREDICATE_LIMIT; predicate++) {
                reached[predicate] = 1L << predicate;
            }
            for (int clause = 0; clause < clauses.size; clause++) {
                int head = headOf(clause);
                for (int at = clauses.first[clause] + 1; at < clauses.first[clause + 1]; at++) {
                    if (clauses.kinds[at] <= Clauses.ABSENT) {
                        reached[head] |= 1L << clauses.predicates[at];
                    }
                }
            }
            for (int through = 0; through < PREDICATE_LIMIT; through++) {
                for (int from = 0; from < PREDICATE_LIMIT; from++) {
                    if ((reached[from] >> through & 1) != 0) {
                        reached[from] |= reached[through];
                    }
                }
            }
        }

        private void settleTerms(int literal) {
            boolean atom = clauses.kinds[literal] <= Clauses.ABSENT;
            for (int column = 0; column < clauses.sizes[literal]; column++) {
                int term = clauses.term(literal, column);
                if (term >= Clauses.CONSTANT) {
                    int rank = constants.rankOf(term - Clauses.CONSTANT);
                    int code = atom ? rank : Clauses.codeOfRank(rank);
                    clauses.setTerm(literal, column, Clauses.CONSTANT + code);
                }
            }
        }

        private boolean raiseStrata() {
            boolean changed = false;
            for (int clause = 0; clause < clauses.size; clause++) {
                int head = headOf(clause);
                for (int at = clauses.first[clause] + 1; at < clauses.first[clause + 1]; at++) {
                    int kind = clauses.kinds[at];
                    int least = 0;
                    if (kind <= Clauses.ABSENT) {
                        least = strata[clauses.predicates[at]] + (kind == Clauses.ABSENT ? 1 : 0);
                    }
                    if (strata[head] < least) {
                        strata[head] = least;
                        changed = true;
                    }
                }
            }
            return changed;
        }
    }

    /** Reads a program, a question, a fact or a word, or finds the fault that counts. */
    private static final class Reader {
        static final int PROGRAM = 0;
        static final int QUESTION = 1;
        static final int FACT = 2;
        static final int WORD = 3;

        // What may come next.
        private static final int CLAUSE = 0;
        private static final int PREDICATE = 1;
        private static final int ARGUMENTS = 2;
        private static final int TERM = 3;
        private static final int TERM_END = 4;
        private static final int HEAD_END = 5;
        private static final int LITERAL = 6;
        private static final int BEHIND_NAME = 7;
        private static final int SIGN = 8;
        private static final int RIGHT_SIDE = 9;
        private static final int LITERAL_END = 10;
        private static final int TAPE_END = 11;
        private static final int DONE = 12;

        private static final int NO_TOKEN = 1;
        private static final int MISPLACED = 2;
        private static final int TOO_MANY = 3;
        private static final int OTHER_SIZE = 10;
        private static final int UNBOUND = 11;
        private static final int CYCLE = 12;

        int code;
        int place;
        final Names variables;
        int anonymous;
        private final Tokens tokens;
        private int mode;
        private int state;
        private Program program;
        private Clauses target;
        private int bodySize;
        private boolean inHead;
        private boolean foreign;
        private int nameStart;
        private int nameStop;
        private int positive;
        private final int[] needed;
        private final Names ownPredicates;
        private final int[] ownSizes;
        private final Constants sides;

        Reader() {
            variables = new Names(Clauses.VARIABLE_LIMIT);
            tokens = new Tokens();
            needed = new int[Clauses.VARIABLE_LIMIT];
            ownPredicates = new Names(Clauses.BODY_LIMIT);
            ownSizes = new int[Clauses.BODY_LIMIT];
            sides = new Constants(2);
        }

        /** Only a program's reading changes the program; into takes the literals. */
        void read(int what, byte[] tape, int length, Program ofProgram, Clauses into) {
            mode = what;
            program = ofProgram;
            target = into;
            tokens.open(tape, length);
            begin();
            for (int tokensRead = 0; tokensRead <= length && state != DONE; tokensRead++) {
                tokens.next();
                settleBefore();
                switch (state) {
                    case CLAUSE:
                        beginClause();
                        break;
                    case PREDICATE:
                        readPredicate();
                        break;
                    case ARGUMENTS:
                        state = TERM;
                        break;
                    case TERM:
                        readTerm();
                        break;
                    case TERM_END:
                        readTermEnd();
                        break;
                    case HEAD_END:
                        readHeadEnd();
                        break;
                    case LITERAL:
                        beginLiteral();
                        break;
                    case SIGN:
                        readComparison();
                        break;
                    case RIGHT_SIDE:
                        readRightSide();
                        break;
                    case LITERAL_END:
                        readLiteralEnd();
                        break;
                    case TAPE_END:
                        expectEnd();
                        break;
                    default:
                        // DONE: a fault stood before this token, or it is none.
                        break;
                }
            }
        }

        private void begin() {
            code = 0;
            target.clear();
            ownPredicates.clear();
            beginBody();
            if (mode == PROGRAM) {
                program.clear();
                state = CLAUSE;
            } else if (mode == QUESTION) {
                state = LITERAL;
            } else {
                target.open(Clauses.ATOM, 0);
                state = PREDICATE;
            }
        }

        /** A token may tell what the one before it was: a TERM, or an ATOM without TERMs. */
        private void settleBefore() {
            if (state == BEHIND_NAME) {
                decideName();
            }
            if (state == ARGUMENTS && tokens.kind != Tokens.OPEN) {
                closeAtom();
            }
            if (state != DONE && tokens.kind == Tokens.BAD) {
                stop(NO_TOKEN, tokens.start);
            }
        }

        void checkCycle() {
            int where = code == 0 ? program.placeOfCycle() : NONE;
            if (where != NONE) {
                stop(CYCLE, where);
            }
        }

        private void stop(int fault, int where) {
            code = fault;
            place = where;
            state = DONE;
        }

        private void refuse() {
            stop(MISPLACED, tokens.start);
        }

        /** For the faults that count only if the whole tape has none of those that stop. */
        private void note(int fault, int where) {
            if (code == 0 || where < place) {
                code = fault;
                place = where;
            }
        }

        private void beginBody() {
            variables.clear();
            anonymous = 0;
            positive = 0;
            bodySize = 0;
            inHead = false;
        }

        private void beginClause() {
            if (tokens.kind == Tokens.END) {
                state = DONE;
            } else if (tokens.kind != Tokens.NAME) {
                refuse();
            } else if (target.size == Program.CLAUSE_LIMIT) {
                stop(TOO_MANY, tokens.start);
            } else {
                beginBody();
                inHead = true;
                target.open(Clauses.ATOM, tokens.start);
                readPredicate();
            }
        }

        private void readPredicate() {
            if (tokens.kind != Tokens.NAME) {
                refuse();
                return;
            }
            markName();
            namePredicate();
        }

        private void markName() {
            nameStart = tokens.start;
            nameStop = tokens.stop;
        }

        private void namePredicate() {
            int length = nameStop - nameStart;
            int id = program.predicates.find(tokens.text, nameStart, length);
            if (id == NONE && mode == PROGRAM) {
                id = program.predicates.add(tokens.text, nameStart, length);
                if (id == NONE) {
                    stop(TOO_MANY, nameStart);
                    return;
                }
            }
            target.predicates[target.newest()] = id;
            foreign = false;
            state = mode == WORD ? TAPE_END : ARGUMENTS;
        }

        private void readTerm() {
            boolean fits = tokens.isConstant() || tokens.kind == Tokens.VARIABLE && mode != FACT;
            if (!fits) {
                refuse();
            } else if (target.sizes[target.newest()] == Clauses.TERM_LIMIT) {
                stop(TOO_MANY, tokens.start);
            } else if (tokens.kind == Tokens.VARIABLE) {
                addVariable(TERM_END);
            } else {
                addAtomConstant();
            }
        }

        private void readTermEnd() {
            if (tokens.kind == Tokens.COMMA) {
                state = TERM;
            } else if (tokens.kind == Tokens.CLOSE) {
                closeAtom();
            } else {
                refuse();
            }
        }

        private void readHeadEnd() {
            inHead = false;
            if (tokens.kind == Tokens.DOT) {
                closeClause();
            } else if (tokens.kind == Tokens.IF) {
                state = LITERAL;
            } else {
                refuse();
            }
        }

        private void beginLiteral() {
            boolean negated = tokens.kind == Tokens.NOT;
            if (!negated && !tokens.isConstant() && tokens.kind != Tokens.VARIABLE) {
                refuse();
            } else if (bodySize == Clauses.BODY_LIMIT) {
                stop(TOO_MANY, tokens.start);
            } else {
                bodySize++;
                if (tokens.kind == Tokens.NAME) {
                    markName();
                    state = BEHIND_NAME;
                } else if (negated) {
                    target.open(Clauses.ABSENT, tokens.start);
                    state = PREDICATE;
                } else {
                    openComparison(tokens.start);
                    addSide(SIGN);
                }
            }
        }

        /** The token behind a body's NAME tells whether it is a TERM or a predicate. */
        private void decideName() {
            if (tokens.isComparison()) {
                openComparison(nameStart);
                addSideConstant(nameStart, nameStop - nameStart, 0, SIGN);
            } else {
                target.open(Clauses.ATOM, nameStart);
                namePredicate();
            }
        }

        private void openComparison(int where) {
            target.open(Tokens.EQUAL, where);
            sides.clear();
        }

        private void readComparison() {
            if (tokens.isComparison()) {
                target.kinds[target.newest()] = tokens.kind;
                state = RIGHT_SIDE;
            } else {
                refuse();
            }
        }

        private void readRightSide() {
            if (!tokens.isConstant() && tokens.kind != Tokens.VARIABLE) {
                refuse();
                return;
            }
            addSide(LITERAL_END);
            if (mode == QUESTION && target.masks[target.newest()] == 0) {
                compareSides();
            }
        }

        /** Two constants that the program has not may have the same place among its own. */
        private void compareSides() {
            int literal = target.newest();
            sides.setRanks();
            // The sides are one constant or two; the left one came first.
            int left = sides.rankOf(0);
            int right = sides.rankOf(sides.size() - 1);
            target.setTerm(literal, 0, Clauses.CONSTANT + Clauses.codeOfRank(left));
            target.setTerm(literal, 1, Clauses.CONSTANT + Clauses.codeOfRank(right));
        }

        private void readLiteralEnd() {
            if (tokens.kind == Tokens.COMMA) {
                state = LITERAL;
            } else if (mode == PROGRAM && tokens.kind == Tokens.DOT) {
                closeClause();
            } else if (mode == QUESTION && tokens.kind == Tokens.END) {
                closeClause();
                state = DONE;
            } else {
                refuse();
            }
        }

        private void expectEnd() {
            if (tokens.kind == Tokens.END) {
                state = DONE;
            } else {
                refuse();
            }
        }

        private void addSide(int nextState) {
            if (tokens.kind == Tokens.VARIABLE) {
                addVariable(nextState);
            } else {
                addSideConstant(tokens.start, tokens.nameLength(), tokens.value, nextState);
            }
        }

        private void addVariable(int nextState) {
            int length = tokens.stop - tokens.start;
            boolean nameless = length == 1 && tokens.text[tokens.start] == '_';
            int variable = nameless ? NONE : variables.find(tokens.text, tokens.start, length);
            if (variable == NONE) {
                variable = variables.add(tokens.text, tokens.start, length);
                if (variable == NONE) {
                    stop(TOO_MANY, tokens.start);
                    return;
                }
                needed[variable] = NONE;
                anonymous |= nameless ? 1 << variable : 0;
            }
            if (!inHead && target.kinds[target.newest()] == Clauses.ATOM) {
                positive |= 1 << variable;
            } else if (needed[variable] == NONE) {
                needed[variable] = tokens.start;
            }
            target.add(variable);
            state = nextState;
        }

        private void addAtomConstant() {
            int constant;
            if (mode == PROGRAM) {
                constant = program.constants.intern(
                    tokens.text, tokens.start, tokens.nameLength(), tokens.value);
            } else {
                int rank = program.constants.search(
                    tokens.text, tokens.start, tokens.nameLength(), tokens.value);
                foreign |= rank < 0;
                constant = Math.max(rank, 0);
            }
            addConstant(constant, tokens.start, TERM_END);
        }

        private void addSideConstant(int from, int length, int value, int nextState) {
            int constant;
            if (mode == PROGRAM) {
                constant = program.constants.intern(tokens.text, from, length, value);
            } else {
                int rank = program.constants.search(tokens.text, from, length, value);
                constant = rank >= 0 ? Clauses.codeOfRank(rank) : 2 * ~rank;
                sides.intern(tokens.text, from, length, value);
            }
            addConstant(constant, from, nextState);
        }

        private void addConstant(int constant, int where, int nextState) {
            if (constant == NONE) {
                stop(TOO_MANY, where);
                return;
            }
            target.add(Clauses.CONSTANT + constant);
            state = nextState;
        }

        private void closeAtom() {
            int literal = target.newest();
            checkSize(literal);
            if (foreign) {
                target.predicates[literal] = NONE;
            }
            if (mode == FACT) {
                state = TAPE_END;
            } else {
                state = inHead ? HEAD_END : LITERAL_END;
            }
        }

        private void checkSize(int literal) {
            int predicate = target.predicates[literal];
            int size = target.sizes[literal];
            if (predicate == NONE) {
                checkOwnSize(size);
            } else if (program.sizes[predicate] == NONE) {
                program.sizes[predicate] = size;
            } else if (program.sizes[predicate] != size) {
                note(OTHER_SIZE, nameStart);
            }
        }

        /** A question's predicates that the program has not must also keep to one size. */
        private void checkOwnSize(int size) {
            int length = nameStop - nameStart;
            int own = ownPredicates.find(tokens.text, nameStart, length);
            if (own == NONE) {
                own = ownPredicates.add(tokens.text, nameStart, length);
                if (own != NONE) {
                    ownSizes[own] = size;
                }
            } else if (ownSizes[own] != size) {
                note(OTHER_SIZE, nameStart);
            }
        }

        private void closeClause() {
            for (int variable = 0; variable < variables.size; variable++) {
                if (needed[variable] != NONE && (positive >> variable & 1) == 0) {
                    note(UNBOUND, needed[variable]);
                }
            }
            target.close();
            state = CLAUSE;
        }
    }

    /**
     * The facts that follow, each once, in the order in which they came. A fact is its predicate
     * and a key: the ranks of its constants, 10 bits each, the first column highest.
     */
    private static final class Facts {
        static final int LIMIT = 20000;
        static final int RANK_MASK = 1023;
        private static final int SLOT_BITS = 15;
        private static final int SLOTS = 1 << SLOT_BITS;
        private static final long SPREAD = 0x9E3779B97F4A7C15L;

        int size;
        int highest;
        boolean full;
        final long[] keys;
        final int[] stages;
        final int[] amounts;
        private final int[] predicates;
        private final int[] next;
        private final int[] slots;
        // A predicate's facts stand in a chain; known is the last one that rules may use.
        private final int[] oldest;
        private final int[] newest;
        private final int[] known;
        private final int[] knownBefore;
        private int visible;

        Facts() {
            keys = new long[LIMIT];
            stages = new int[LIMIT];
            amounts = new int[Program.PREDICATE_LIMIT];
            predicates = new int[LIMIT];
            next = new int[LIMIT];
            slots = new int[SLOTS];
            oldest = new int[Program.PREDICATE_LIMIT];
            newest = new int[Program.PREDICATE_LIMIT];
            known = new int[Program.PREDICATE_LIMIT];
            knownBefore = new int[Program.PREDICATE_LIMIT];
        }

        static int shiftOf(int column) {
            return 50 - 10 * column;
        }

        static int rankIn(long key, int column) {
            return (int) (key >> 50 - 10 * column) & RANK_MASK;
        }

        void clear() {
            size = 0;
            highest = 0;
            full = false;
            visible = 0;
            Arrays.fill(slots, 0);
            Arrays.fill(amounts, 0);
            Arrays.fill(oldest, NONE);
            Arrays.fill(newest, NONE);
            Arrays.fill(known, NONE);
            Arrays.fill(knownBefore, NONE);
        }

        int find(int predicate, long key) {
            return slots[slotOf(predicate, key)] - 1;
        }

        /** Whether rules of the present stage may use this fact. */
        boolean isVisible(int predicate, long key) {
            int fact = slots[slotOf(predicate, key)] - 1;
            return fact != NONE && fact < visible;
        }

        void add(int predicate, long key, int stage) {
            int slot = slotOf(predicate, key);
            if (slots[slot] != 0) {
                return;
            }
            if (size == LIMIT) {
                full = true;
                return;
            }
            slots[slot] = size + 1;
            keys[size] = key;
            predicates[size] = predicate;
            stages[size] = stage;
            next[size] = NONE;
            highest = Math.max(highest, stage);
            if (newest[predicate] == NONE) {
                oldest[predicate] = size;
            } else {
                next[newest[predicate]] = size;
            }
            newest[predicate] = size;
            amounts[predicate]++;
            size++;
        }

        /** From now on rules may use all facts; those that they could not before are the fresh. */
        void mark() {
            visible = size;
            for (int predicate = 0; predicate < known.length; predicate++) {
                knownBefore[predicate] = known[predicate];
                known[predicate] = newest[predicate];
            }
        }

        boolean hasFresh(int predicate) {
            return known[predicate] != knownBefore[predicate];
        }

        boolean isEmpty(int predicate) {
            return known[predicate] == NONE;
        }

        int firstOf(int predicate, boolean freshOnly) {
            boolean all = !freshOnly || knownBefore[predicate] == NONE;
            return all ? oldest[predicate] : next[knownBefore[predicate]];
        }

        int lastOf(int predicate) {
            return known[predicate];
        }

        int after(int fact) {
            return next[fact];
        }

        private int slotOf(int predicate, long key) {
            long mixed = (key ^ key >>> 29) * SPREAD + predicate * (SPREAD >>> 7);
            int slot = (int) ((mixed ^ mixed >>> 31) * SPREAD >>> 64 - SLOT_BITS);
            // There are more slots than facts, so an empty one is met.
            for (int tries = 0; tries < SLOTS; tries++) {
                int fact = slots[slot] - 1;
                if (fact < 0 || keys[fact] == key && predicates[fact] == predicate) {
                    return slot;
                }
                slot = slot + 1 & SLOTS - 1;
            }
            return slot;
        }
    }

    /** A literal at its place in the order in which a body is worked through. */
    private static final class Step {
        // A column's role: its position in the index's keys, or one of these.
        static final int DROPPED = 6;
        static final int SAME_AS = 7;
        static final int FIXED = 13;

        int literal;
        boolean scans;
        boolean freshOnly;
        int bound;
        int live;
        // Variables whose values are looked for, and those that get values here.
        int soughtMask;
        int givenMask;
        int sought;
        int width;
        int predicate;
        boolean ordered;
        int shape;
        long fixed;
        int from;
        int to;
        final int[] roles;
        private final int[] variables;

        Step() {
            roles = new int[Clauses.TERM_LIMIT];
            variables = new int[Clauses.TERM_LIMIT];
        }

        /** Which keys this scan wants: bound variables first, then those used later on. */
        void setShape(Clauses clauses) {
            int size = clauses.sizes[literal];
            predicate = clauses.predicates[literal];
            Arrays.fill(roles, DROPPED);
            width = 0;
            fixed = 0;
            givePositions(clauses, size, bound);
            sought = width;
            soughtMask = clauses.masks[literal] & bound;
            givePositions(clauses, size, live & ~bound);
            givenMask = clauses.masks[literal] & live & ~bound;
            for (int column = 0; column < size; column++) {
                setOtherRole(clauses, column);
            }
            setIndex(size);
        }

        /** Keys must be in order to be looked for, or to be told when they are there twice. */
        private void setIndex(int size) {
            ordered = sought > 0;
            for (int column = 0; column < size; column++) {
                ordered |= roles[column] == DROPPED;
            }
            shape = predicate << 1 | (ordered ? 1 : 0);
            for (int column = 0; column < Clauses.TERM_LIMIT; column++) {
                shape = shape << 4 | roles[column];
            }
        }

        long soughtKey(int[] values) {
            long key = 0;
            for (int position = 0; position < sought; position++) {
                key |= (long) values[variables[position]] << Facts.shiftOf(position);
            }
            return key;
        }

        void give(long key, int[] values) {
            for (int position = sought; position < width; position++) {
                values[variables[position]] = Facts.rankIn(key, position);
            }
        }

        /** A fact's part that the index keeps, or NONE if the fact does not fit. */
        long project(long key) {
            long part = 0;
            for (int column = 0; column < Clauses.TERM_LIMIT; column++) {
                int rank = Facts.rankIn(key, column);
                int role = roles[column];
                if (role < DROPPED) {
                    part |= (long) rank << Facts.shiftOf(role);
                } else if (role == FIXED && rank != Facts.rankIn(fixed, column)) {
                    return NONE;
                } else if (role >= SAME_AS && role < FIXED
                        && rank != Facts.rankIn(key, role - SAME_AS)) {
                    return NONE;
                }
            }
            return part;
        }

        private void givePositions(Clauses clauses, int size, int wanted) {
            for (int column = 0; column < size; column++) {
                int term = clauses.term(literal, column);
                if (term < Clauses.CONSTANT && (wanted >> term & 1) != 0
                        && firstColumnOf(clauses, term) == column) {
                    roles[column] = width;
                    variables[width] = term;
                    width++;
                }
            }
        }

        private void setOtherRole(Clauses clauses, int column) {
            int term = clauses.term(literal, column);
            int first = firstColumnOf(clauses, term);
            if (term >= Clauses.CONSTANT) {
                roles[column] = FIXED;
                fixed |= (long) (term - Clauses.CONSTANT) << Facts.shiftOf(column);
            } else if (first < column) {
                roles[column] = SAME_AS + first;
            }
        }

        private int firstColumnOf(Clauses clauses, int term) {
            int column = 0;
            while (column < clauses.sizes[literal] && clauses.term(literal, column) != term) {
                column++;
            }
            return column;
        }
    }

    /** Sorted parts of facts, each once; kept until there is no room for more. */
    private static final class Indexes {
        private static final int LIMIT = 64;
        private static final int FIRST_ROOM = 8192;
        // How many times a body's keys should have room, so that indexes can be used again.
        private static final int ROOMY = 2;
        private static final int[] GAPS = {
            8858, 3937, 1750, 701, 301, 132, 57, 23, 10, 4, 1
        };

        private int size;
        private final int[] shapes;
        private final long[] fixed;
        private final int[] firsts;
        private final int[] lasts;
        private final int[] froms;
        private final int[] tos;
        private long[] pool;
        private int used;

        Indexes() {
            shapes = new int[LIMIT];
            fixed = new long[LIMIT];
            firsts = new int[LIMIT];
            lasts = new int[LIMIT];
            froms = new int[LIMIT];
            tos = new int[LIMIT];
            pool = new long[FIRST_ROOM];
        }

        void clear() {
            size = 0;
            used = 0;
        }

        /** Before a body's indexes are made, so that making one takes none of the others away. */
        void makeRoom(int keys) {
            if (used + keys > pool.length || size + Clauses.BODY_LIMIT > LIMIT) {
                clear();
                if (ROOMY * keys > pool.length) {
                    pool = new long[Math.max(ROOMY * keys, 2 * pool.length)];
                }
            }
        }

        void provide(Step step, Facts facts) {
            int first = facts.firstOf(step.predicate, step.freshOnly);
            int last = facts.lastOf(step.predicate);
            int index = 0;
            while (index < size && !(shapes[index] == step.shape && fixed[index] == step.fixed
                    && firsts[index] == first && lasts[index] == last)) {
                index++;
            }
            if (index == size) {
                shapes[size] = step.shape;
                fixed[size] = step.fixed;
                firsts[size] = first;
                lasts[size] = last;
                froms[size] = used;
                collect(step, facts, first, last);
                tos[size] = used;
                size++;
            }
            step.from = froms[index];
            step.to = tos[index];
        }

        long at(int position) {
            return pool[position];
        }

        /** The first position in a range that holds this key or one above it. */
        int seek(int from, int to, long key) {
            int low = from;
            int high = to;
            while (low < high) {
                int middle = (low + high) >>> 1;
                if (pool[middle] < key) {
                    low = middle + 1;
                } else {
                    high = middle;
                }
            }
            return low;
        }

        private void collect(Step step, Facts facts, int first, int last) {
            int from = used;
            boolean sorted = true;
            int fact = first;
            for (int seen = 0; seen < Facts.LIMIT && fact != NONE; seen++) {
                long part = step.project(facts.keys[fact]);
                if (part != NONE && used < pool.length) {
                    sorted = sorted && (used == from || pool[used - 1] < part);
                    pool[used] = part;
                    used++;
                }
                fact = fact == last ? NONE : facts.after(fact);
            }
            if (step.ordered && !sorted) {
                sort(from);
                dropEquals(from);
            }
        }

        private void sort(int from) {
            for (int gap : GAPS) {
                for (int i = from + gap; i < used; i++) {
                    long key = pool[i];
                    int j = i;
                    while (j >= from + gap && pool[j - gap] > key) {
                        pool[j] = pool[j - gap];
                        j -= gap;
                    }
                    pool[j] = key;
                }
            }
        }

        private void dropEquals(int from) {
            int kept = from;
            for (int i = from; i < used; i++) {
                if (kept == from || pool[kept - 1] != pool[i]) {
                    pool[kept] = pool[i];
                    kept++;
                }
            }
            used = kept;
        }
    }

    /** A question's rows; a row is the ranks of its columns in two longs. */
    private static final class Rows {
        private static final int LIMIT = 5000;
        private static final int HALF = 6;
        private static final int[] GAPS = {1750, 701, 301, 132, 57, 23, 10, 4, 1};

        int size;
        int width;
        boolean full;
        private final long[] left;
        private final long[] right;
        private final int[] variables;

        Rows() {
            left = new long[LIMIT];
            right = new long[LIMIT];
            variables = new int[Clauses.VARIABLE_LIMIT];
        }

        /** No rows, with a column for each variable that is not anonymous. */
        void open(int variableCount, int anonymous) {
            size = 0;
            width = 0;
            full = false;
            for (int variable = 0; variable < variableCount; variable++) {
                if ((anonymous >> variable & 1) == 0) {
                    variables[width] = variable;
                    width++;
                }
            }
        }

        boolean has(int row, int column) {
            return row >= 0 && row < size && column >= 0 && column < width;
        }

        int rankAt(int row, int column) {
            return column < HALF
                ? Facts.rankIn(left[row], column) : Facts.rankIn(right[row], column - HALF);
        }

        int usedVariables() {
            int mask = 0;
            for (int column = 0; column < width; column++) {
                mask |= 1 << variables[column];
            }
            return mask;
        }

        /**
         * No row comes twice: an index holds each part once, and leaves out only the variables _,
         * so that two ways through a question differ in a column.
         */
        void add(int[] values) {
            if (size == LIMIT) {
                full = true;
                return;
            }
            left[size] = keyOf(values, 0);
            right[size] = keyOf(values, HALF);
            size++;
        }

        void sort() {
            for (int gap : GAPS) {
                for (int i = gap; i < size; i++) {
                    sink(i, gap);
                }
            }
        }

        private void sink(int row, int gap) {
            long first = left[row];
            long second = right[row];
            int j = row;
            while (j >= gap && isAbove(j - gap, first, second)) {
                left[j] = left[j - gap];
                right[j] = right[j - gap];
                j -= gap;
            }
            left[j] = first;
            right[j] = second;
        }

        private boolean isAbove(int row, long first, long second) {
            return left[row] > first || left[row] == first && right[row] > second;
        }

        private long keyOf(int[] values, int from) {
            long key = 0;
            for (int column = from; column < width && column < from + HALF; column++) {
                key |= (long) values[variables[column]] << 50 - 10 * (column - from);
            }
            return key;
        }
    }

    /** Finds all values of a body's variables with which it is so. */
    private static final class Join {
        private static final int UNCONNECTED = 1 << 28;

        final int[] values;
        private final Facts facts;
        private final Indexes indexes;
        private final Step[] steps;
        private int stepCount;
        private Clauses clauses;
        private int head;
        private Rows rows;
        private int stage;
        private int output;
        private boolean stopped;

        Join(Facts ofFacts) {
            facts = ofFacts;
            values = new int[Clauses.VARIABLE_LIMIT];
            indexes = new Indexes();
            steps = new Step[Clauses.BODY_LIMIT];
            for (int i = 0; i < steps.length; i++) {
                steps[i] = new Step();
            }
        }

        void forgetIndexes() {
            indexes.clear();
        }

        void answer(Clauses question, Rows into) {
            clauses = question;
            rows = into;
            head = NONE;
            output = into.usedVariables();
            work(0, question.first[1], NONE);
        }

        /** Makes all facts of a stratum, when those of all lower ones are there. */
        void closeStratum(Program program, int level) {
            clauses = program.clauses;
            addPlainFacts(program, level);
            int before = NONE;
            // Each stage but the last brings a fact at least.
            for (stage = 1; stage <= Facts.LIMIT + 1 && facts.size != before; stage++) {
                facts.mark();
                before = facts.size;
                for (int clause = 0; clause < clauses.size; clause++) {
                    head = clauses.first[clause];
                    output = clauses.masks[head];
                    int end = clauses.first[clause + 1];
                    for (int at = head + 1; at < end; at++) {
                        if (startsWork(program, level, at)) {
                            work(head + 1, end, stage == 1 ? NONE : at);
                        }
                    }
                }
            }
        }

        private void addPlainFacts(Program program, int level) {
            for (int clause = 0; clause < clauses.size; clause++) {
                int predicate = program.headOf(clause);
                if (!clauses.hasBody(clause) && program.strata[predicate] == level) {
                    facts.add(predicate, clauses.keyOf(clauses.first[clause], values), 0);
                }
            }
        }

        /**
         * At stage 1 a body is worked through once. What is new at a later stage uses a fact of
         * the stage before: each atom of the stratum in turn takes it.
         */
        private boolean startsWork(Program program, int level, int literal) {
            int predicate = clauses.predicates[literal];
            if (program.strata[clauses.predicates[head]] != level) {
                return false;
            }
            if (stage == 1) {
                return literal == head + 1;
            }
            return clauses.kinds[literal] == Clauses.ATOM
                && program.strata[predicate] == level && facts.hasFresh(predicate);
        }

        private void work(int from, int to, int freshAtom) {
            stopped = head != NONE && facts.full;
            if (stopped || lacksFacts(from, to)) {
                return;
            }
            arrange(from, to, freshAtom);
            prepare();
            solve(0);
        }

        private boolean lacksFacts(int from, int to) {
            for (int at = from; at < to; at++) {
                int predicate = clauses.predicates[at];
                if (clauses.kinds[at] == Clauses.ATOM
                        && (predicate == NONE || facts.isEmpty(predicate))) {
                    return true;
                }
            }
            return false;
        }

        /** Orders the body: what can be tested at once, else the atom that promises least work. */
        private void arrange(int from, int to, int freshAtom) {
            int left = (1 << to - from) - 1;
            int bound = 0;
            stepCount = 0;
            while (left != 0 && stepCount < steps.length) {
                boolean fresh = stepCount == 0 && freshAtom != NONE;
                int literal = fresh ? freshAtom : nextLiteral(from, left, bound);
                Step step = steps[stepCount];
                int mask = clauses.masks[literal];
                step.literal = literal;
                step.freshOnly = fresh;
                step.bound = bound;
                step.scans = clauses.kinds[literal] == Clauses.ATOM
                    && (fresh || (mask & ~bound) != 0);
                bound |= mask;
                left &= ~(1 << literal - from);
                stepCount++;
            }
        }

        private int nextLiteral(int from, int left, int bound) {
            int best = from;
            int least = 2 * UNCONNECTED;
            for (int i = 0; i < Clauses.BODY_LIMIT; i++) {
                if ((left >> i & 1) != 0) {
                    int cost = costOf(from + i, bound);
                    if (cost < least) {
                        least = cost;
                        best = from + i;
                    }
                }
            }
            return best;
        }

        private int costOf(int literal, int bound) {
            if ((clauses.masks[literal] & ~bound) == 0) {
                return 0;
            }
            if (clauses.kinds[literal] != Clauses.ATOM) {
                return 2 * UNCONNECTED;
            }
            int narrowed = 0;
            for (int column = 0; column < clauses.sizes[literal]; column++) {
                int term = clauses.term(literal, column);
                boolean known = term >= Clauses.CONSTANT || (bound >> term & 1) != 0;
                narrowed += known ? 1 : 0;
            }
            int cost = 1 + (facts.amounts[clauses.predicates[literal]] << 12 >> 2 * narrowed);
            return narrowed == 0 ? cost + UNCONNECTED : cost;
        }

        private void prepare() {
            int live = output;
            int keys = 0;
            for (int i = stepCount - 1; i >= 0; i--) {
                Step step = steps[i];
                step.live = live;
                live |= clauses.masks[step.literal];
                if (step.scans) {
                    step.setShape(clauses);
                    keys += facts.amounts[step.predicate];
                }
            }
            indexes.makeRoom(keys);
            for (int i = 0; i < stepCount; i++) {
                if (steps[i].scans) {
                    indexes.provide(steps[i], facts);
                }
            }
        }

        /**
         * Works from a step on, and tells on which variables its finds hang: where these have the
         * same values, nothing is found that was not found now. So a scan need not go on when what
         * it gives is not among them.
         */
        private int solve(int from) {
            int at = from;
            while (at < stepCount && !steps[at].scans) {
                if (!holds(steps[at].literal)) {
                    return clauses.masks[steps[at].literal];
                }
                at++;
            }
            if (at < stepCount) {
                return scan(at);
            }
            emit();
            return output;
        }

        private int scan(int at) {
            Step step = steps[at];
            long sought = step.soughtKey(values);
            int shift = 60 - 10 * step.sought;
            int hangsOn = step.soughtMask;
            int position = step.sought == 0 ? step.from : indexes.seek(step.from, step.to, sought);
            while (position < step.to && indexes.at(position) >> shift == sought >> shift) {
                step.give(indexes.at(position), values);
                int below = solve(at + 1);
                if (stopped || (below & step.givenMask) == 0) {
                    return below;
                }
                hangsOn |= below & ~step.givenMask;
                position++;
            }
            return hangsOn;
        }

        private boolean holds(int literal) {
            int kind = clauses.kinds[literal];
            if (kind > Clauses.ABSENT) {
                return clauses.compares(literal, values);
            }
            int predicate = clauses.predicates[literal];
            if (predicate == NONE) {
                return kind == Clauses.ABSENT;
            }
            boolean there = facts.isVisible(predicate, clauses.keyOf(literal, values));
            return there == (kind == Clauses.ATOM);
        }

        private void emit() {
            if (head == NONE) {
                rows.add(values);
                stopped = rows.full;
            } else {
                facts.add(clauses.predicates[head], clauses.keyOf(head, values), stage);
                stopped = facts.full;
            }
        }
    }
}
