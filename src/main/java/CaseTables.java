/** A bench for tests that are told by tables. */
public final class CaseTables {
    private static final int MAX_TAPE = 1500;
    private static final int MAX_FUNS = 6;
    private static final int MAX_TABLES = 6;
    private static final int MAX_INPUTS = 3;
    private static final int MAX_ROWS = 12;
    private static final int MAX_CASES = 100;
    private static final int MAX_BOUND = 20;
    private static final int MAX_WIDTH = 2 * MAX_BOUND + 1;
    private static final int MAX_WORD = 8;
    private static final int MAX_DIGITS = 4;
    private static final int MAX_NUMBER = 9999;
    private static final int MAX_TOKENS = 50;
    private static final int MAX_DEPTH = 8;
    private static final int MAX_SIZE = 200;
    // No token makes more than two instructions: "and" and "or" make two, an if with its then and else three.
    private static final int MAX_CODE = 2 * MAX_TOKENS;
    // k ifs need 3 * k words of their own and 2 * k + 1 parts between them, so 50 tokens hold 9 at most.
    private static final int MAX_IFS = 9 * MAX_FUNS;
    // A token lays at most one value on the stack, and functions that stand open at once have 200 tokens in all.
    private static final int MAX_STACK = MAX_SIZE + MAX_INPUTS;
    private static final int NO_PLACE = -1;

    // The kind that no token has.
    private static final int NO_KIND = -1;
    // Kinds of tokens. Those of operators, of "if" and of a number are also the instructions for them.
    private static final int END = 0;
    private static final int BAD = 1;
    private static final int NUMBER = 2;
    private static final int NAME = 3;
    private static final int FUN = 4;
    private static final int IN = 5;
    private static final int IF = 6;
    private static final int THEN = 7;
    private static final int ELSE = 8;
    private static final int AND = 9;
    private static final int OR = 10;
    private static final int NOT = 11;
    private static final int TABLE = 12;
    private static final int OF = 13;
    private static final int ANY = 14;
    private static final int ERROR = 15;
    private static final int OPEN = 16;
    private static final int CLOSE = 17;
    private static final int COMMA = 18;
    private static final int SEMICOLON = 19;
    private static final int COLON = 20;
    private static final int BAR = 21;
    private static final int EQUAL = 22;
    private static final int UNEQUAL = 23;
    private static final int LESS = 24;
    private static final int LESS_EQUAL = 25;
    private static final int GREATER = 26;
    private static final int GREATER_EQUAL = 27;
    private static final int PLUS = 28;
    private static final int MINUS = 29;
    private static final int STAR = 30;
    private static final int SLASH = 31;
    private static final int PERCENT = 32;
    private static final int DOTS = 33;
    // Instructions that no single token tells.
    private static final int INPUT = 34;
    private static final int CALL = 35;
    private static final int NEGATE = 36;
    private static final int TRUTH = 37;
    private static final int JUMP = 38;

    // The keywords in the order of their kinds from FUN on, their bytes packed as those of a word are.
    private static final long[] KEYWORDS = {
        0x66756eL, // fun
        0x696eL, // in
        0x6966L, // if
        0x7468656eL, // then
        0x656c7365L, // else
        0x616e64L, // and
        0x6f72L, // or
        0x6e6f74L, // not
        0x7461626c65L, // table
        0x6f66L, // of
        0x616e79L, // any
        0x6572726f72L, // error
    };

    private final Tape tape;
    private final Tokens tokens;
    private final Program program;
    private final Compiler compiler;
    private final Machine machine;
    private final Runner runner;
    private final Untried untried;
    private int latestErrorAt;

    public CaseTables() {
        tape = new Tape();
        tokens = new Tokens(tape);
        program = new Program();
        compiler = new Compiler(tokens, program);
        machine = new Machine(program);
        runner = new Runner(program, machine);
        untried = new Untried();
        latestErrorAt = -1;
    }

    // ---- programs

    public int feed(int a, int b, int c, int d, int e) throws IllegalStateException {
        if (tape.room() < 20) {
            throw new IllegalStateException();
        }
        tape.append(a);
        tape.append(b);
        tape.append(c);
        tape.append(d);
        tape.append(e);
        return tape.length();
    }

    public int trim(int n) throws IllegalArgumentException {
        if (n < 0 || n > tape.length()) {
            throw new IllegalArgumentException();
        }
        tape.cutTo(n);
        return n;
    }

    public int compile() {
        tokens.scan();
        int error = compiler.translate();
        latestErrorAt = compiler.errorPlace();
        runner.forget();
        tape.cutTo(0);
        return error;
    }

    public int errorAt() {
        return latestErrorAt;
    }

    public int count(int what) throws IndexOutOfBoundsException {
        switch (what) {
            case 0:
                return program.funCount;
            case 1:
                return program.tableCount;
            case 2:
                return program.ifCount;
            case 3:
                return program.caseCount();
            case 4:
                return tape.length();
            default:
                throw new IndexOutOfBoundsException();
        }
    }

    // ---- functions

    public int fun(int fun, int what) throws IndexOutOfBoundsException {
        Fun asked = existingFun(fun);
        switch (what) {
            case 0:
                return asked.inputCount;
            case 1:
                return asked.placeCount;
            case 2:
                return program.tablesOf(fun);
            case 3:
                return asked.ranges.rowCount();
            case 4:
                return asked.pairCount();
            case 5:
                findUntried(fun);
                return untried.pairCount();
            default:
                throw new IndexOutOfBoundsException();
        }
    }

    public long call(int fun, int a, int b, int c) throws IndexOutOfBoundsException, IllegalStateException {
        existingFun(fun);
        return valueOrThrow(fun, NO_PLACE, a, b, c);
    }

    public long callChanged(int fun, int place, int a, int b, int c)
            throws IndexOutOfBoundsException, IllegalStateException {
        requireBelow(place, existingFun(fun).placeCount);
        return valueOrThrow(fun, place, a, b, c);
    }

    public int inputOf(int fun, int index, int input) throws IndexOutOfBoundsException {
        Fun asked = existingFun(fun);
        requireBelow(index, asked.ranges.rowCount());
        requireBelow(input, asked.inputCount);
        return asked.ranges.valueAt(index, input);
    }

    public int propose(int fun) throws IndexOutOfBoundsException {
        existingFun(fun);
        findUntried(fun);
        return untried.bestRow();
    }

    // ---- tables

    public int table(int table, int what) throws IndexOutOfBoundsException {
        Table asked = existingTable(table);
        requireBelow(what, 5);
        if (what >= 3) {
            runner.refresh();
        }
        return asked.tell(what);
    }

    public int caseOf(int table, int index, int input) throws IndexOutOfBoundsException {
        Table asked = existingTable(table);
        requireBelow(index, asked.caseCount);
        requireBelow(input, program.funAt(asked.fun).inputCount);
        return asked.valueAt(index, input);
    }

    public boolean holds(int table, int index) throws IndexOutOfBoundsException {
        Table asked = existingTable(table);
        requireBelow(index, asked.caseCount);
        runner.refresh();
        return asked.isHolding(index);
    }

    public int taken(int number, boolean isThen) throws IndexOutOfBoundsException {
        requireBelow(number, program.ifCount);
        runner.refresh();
        return machine.branchCount(number, isThen);
    }

    public boolean finds(int table, int place) throws IndexOutOfBoundsException {
        Table asked = existingTable(table);
        requireBelow(place, program.funAt(asked.fun).placeCount);
        return (runner.changesFound(asked, null) >> place & 1) != 0;
    }

    public double score(int table) throws IndexOutOfBoundsException {
        Table asked = existingTable(table);
        int places = program.funAt(asked.fun).placeCount;
        if (places == 0) {
            return 1;
        }
        return (double) Long.bitCount(runner.changesFound(asked, null)) / (double) places;
    }

    public int grow(int table) throws IndexOutOfBoundsException, IllegalStateException {
        Table grown = existingTable(table);
        findUntried(grown.fun);
        int proposed = untried.bestRow();
        if (proposed < 0 || grown.rowCount >= MAX_ROWS || grown.caseCount >= MAX_CASES) {
            throw new IllegalStateException();
        }
        addCase(grown, proposed);
        runner.forget();
        return grown.caseCount;
    }

    public int shorten(int table) throws IndexOutOfBoundsException {
        Table shortened = existingTable(table);
        for (int number = shortened.rowCount - 1; number >= 0 && shortened.rowCount > 1; number--) {
            long without = runner.changesFound(shortened, shortened.rowAt(number));
            if (Long.bitCount(without) == Long.bitCount(runner.changesFound(shortened, null))) {
                shortened.drop(number);
            }
        }
        runner.forget();
        return shortened.rowCount;
    }

    public long digest() {
        runner.refresh();
        long sum = 373;
        for (int what = 0; what <= 4; what++) {
            sum = sum * 31 + count(what);
        }
        for (int number = 0; number < program.funCount; number++) {
            for (int what = 0; what <= 5; what++) {
                sum = sum * 31 + fun(number, what);
            }
        }
        for (int number = 0; number < program.tableCount; number++) {
            sum = addTable(sum, program.tableAt(number));
        }
        for (int number = 0; number < program.ifCount; number++) {
            sum = sum * 31 + machine.branchCount(number, true);
            sum = sum * 31 + machine.branchCount(number, false);
        }
        return sum;
    }

    // ---- helpers of the face

    private long addTable(long start, Table added) {
        long sum = start;
        for (int what = 0; what <= 4; what++) {
            sum = sum * 31 + added.tell(what);
        }
        int inputs = program.funAt(added.fun).inputCount;
        for (int index = 0; index < added.caseCount; index++) {
            for (int input = 0; input < inputs; input++) {
                sum = sum * 31 + added.valueAt(index, input);
            }
        }
        return sum;
    }

    private static void requireBelow(int index, int bound) {
        if (index < 0 || index >= bound) {
            throw new IndexOutOfBoundsException();
        }
    }

    private Fun existingFun(int number) {
        requireBelow(number, program.funCount);
        return program.funAt(number);
    }

    private Table existingTable(int number) {
        requireBelow(number, program.tableCount);
        return program.tableAt(number);
    }

    private long valueOrThrow(int fun, int place, int a, int b, int c) {
        long value = machine.reckon(fun, place, a, b, c);
        if (machine.hasFailed()) {
            throw new IllegalStateException();
        }
        return value;
    }

    private void findUntried(int fun) {
        Fun asked = program.funAt(fun);
        untried.begin(asked);
        for (int number = 0; number < program.tableCount; number++) {
            Table tried = program.tableAt(number);
            if (tried.fun == fun) {
                untried.strikeTable(asked.ranges, tried);
            }
        }
    }

    private void addCase(Table grown, int proposed) {
        Ranges all = program.funAt(grown.fun).ranges;
        Row row = grown.nextRow();
        for (int input = 0; input < MAX_INPUTS; input++) {
            int value = all.valueAt(proposed, input);
            row.ranges.put(input, value, value);
        }
        Ranges one = row.ranges;
        row.number = machine.reckon(grown.fun, NO_PLACE, one.low(0), one.low(1), one.low(2));
        row.result = machine.hasFailed() ? ERROR : EQUAL;
        grown.keepRow();
    }

    // ---- the parts of the bench

    /** The bytes that are fed. */
    private static final class Tape {
        private final byte[] bytes = new byte[MAX_TAPE];
        private int length;

        int length() {
            return length;
        }

        int room() {
            return MAX_TAPE - length;
        }

        void cutTo(int kept) {
            length = kept;
        }

        void append(int four) {
            for (int shift = 24; shift >= 0; shift -= 8) {
                if (length >= 0 && length < bytes.length) {
                    bytes[length] = (byte) (four >> shift);
                    length++;
                }
            }
        }

        /** The byte at a place, 0 to 255; -1 behind the end. */
        int byteAt(int place) {
            if (place < 0 || place >= length || place >= bytes.length) {
                return -1;
            }
            return bytes[place] & 255;
        }
    }

    /** The tokens of the tape, which are scanned all at once, and a position that goes over them. */
    private static final class Tokens {
        private final Tape tape;
        private final int[] kinds = new int[MAX_TAPE + 1];
        private final int[] starts = new int[MAX_TAPE + 1];
        // Of a number its value, of a word its bytes: they fit, eight at most, and tell words apart.
        private final long[] values = new long[MAX_TAPE + 1];
        private int next;
        private int kind;
        private int start;
        private long value;
        private int position;
        private int limit;
        private boolean failed;

        Tokens(Tape tape) {
            this.tape = tape;
        }

        /** Goes to the first token; the last one is the end of the tape. */
        void scan() {
            next = 0;
            position = 0;
            limit = kinds.length;
            failed = false;
            kind = BAD;
            for (int i = 0; i < kinds.length && i < starts.length && i < values.length && kind != END; i++) {
                scanOne();
                kinds[i] = kind;
                starts[i] = start;
                values[i] = value;
            }
        }

        // -- reading

        /** Behind an error of form no token is seen any more, so that reading ends by itself. */
        boolean sees(int asked) {
            return !failed && position >= 0 && position < limit && position < kinds.length
                    && kinds[position] == asked;
        }

        /** Whether the token is the one asked for, which is taken then; no error if it is another. */
        boolean passes(int asked) {
            if (!sees(asked)) {
                return false;
            }
            position++;
            return true;
        }

        /** Takes the token asked for; it is an error of form if it is another. */
        boolean expect(int asked) {
            if (!sees(asked)) {
                fail();
                return false;
            }
            position++;
            return true;
        }

        /** The kind of the token, if it is one of a row of kinds. */
        int oneOf(int first, int last) {
            if (failed || position < 0 || position >= limit || position >= kinds.length) {
                return NO_KIND;
            }
            return kinds[position] >= first && kinds[position] <= last ? kinds[position] : NO_KIND;
        }

        /** An error of form, which stays where it is: no token is passed any more. */
        void fail() {
            failed = true;
        }

        int startHere() {
            return position >= 0 && position < starts.length ? starts[position] : 0;
        }

        long valueHere() {
            return position >= 0 && position < values.length ? values[position] : 0;
        }

        /** From here on only so many tokens are seen, so that the one behind them is an error of form. */
        void allow(int tokens) {
            limit = position + tokens;
        }

        void allowAll() {
            limit = kinds.length;
        }

        // -- scanning

        private void scanOne() {
            skipBlanks();
            start = next;
            value = 0;
            int sign = tape.byteAt(next);
            if (sign < 0) {
                kind = END;
            } else if (isLetter(sign)) {
                scanWord();
            } else if (isDigit(sign)) {
                scanNumber();
            } else {
                next++;
                kind = symbolKind(sign);
            }
        }

        private void skipBlanks() {
            while (next < tape.length() && isBlank(tape.byteAt(next))) {
                next++;
            }
        }

        private void scanWord() {
            while (next < tape.length() && isWordSign(tape.byteAt(next))) {
                value = value << 8 | tape.byteAt(next);
                next++;
            }
            kind = next - start > MAX_WORD ? BAD : wordKind();
        }

        private int wordKind() {
            for (int i = 0; i < KEYWORDS.length; i++) {
                if (KEYWORDS[i] == value) {
                    return FUN + i;
                }
            }
            return NAME;
        }

        private void scanNumber() {
            while (next < tape.length() && isDigit(tape.byteAt(next))) {
                value = value * 10 + tape.byteAt(next) - '0';
                next++;
            }
            kind = next - start > MAX_DIGITS ? BAD : NUMBER;
        }

        private int symbolKind(int sign) {
            switch (sign) {
                case '(':
                    return OPEN;
                case ')':
                    return CLOSE;
                case ',':
                    return COMMA;
                case ';':
                    return SEMICOLON;
                case ':':
                    return COLON;
                case '|':
                    return BAR;
                case '=':
                    return EQUAL;
                case '+':
                    return PLUS;
                case '-':
                    return MINUS;
                case '*':
                    return STAR;
                case '/':
                    return SLASH;
                case '%':
                    return PERCENT;
                case '<':
                    return follows('=') ? LESS_EQUAL : follows('>') ? UNEQUAL : LESS;
                case '>':
                    return follows('=') ? GREATER_EQUAL : GREATER;
                case '.':
                    return follows('.') ? DOTS : BAD;
                default:
                    return BAD;
            }
        }

        /** Takes the next byte into the token too, if it is the one that is asked for. */
        private boolean follows(int sign) {
            if (tape.byteAt(next) != sign) {
                return false;
            }
            next++;
            return true;
        }

        private static boolean isBlank(int sign) {
            return sign == 32 || sign == 10;
        }

        private static boolean isLetter(int sign) {
            return sign >= 'a' && sign <= 'z';
        }

        private static boolean isDigit(int sign) {
            return sign >= '0' && sign <= '9';
        }

        private static boolean isWordSign(int sign) {
            return isLetter(sign) || isDigit(sign);
        }
    }

    /**
     * Compiles the tape in one pass: form and meaning are looked at together, the first error of each is kept,
     * and the one of form goes ahead. After an error the program is read on into objects that are thrown away.
     */
    private static final class Compiler {
        private final Tokens tokens;
        private final Program program;
        private int complaint;
        private int complaintAt;
        private Fun fun;
        private Table table;

        Compiler(Tokens tokens, Program program) {
            this.tokens = tokens;
            this.program = program;
            fun = program.funAt(0);
            table = program.tableAt(0);
        }

        /** Returns 0, or the error. */
        int translate() {
            complaint = 0;
            program.clear();
            boolean hasMore = true;
            for (int items = 0; items < MAX_TAPE && hasMore; items++) {
                if (tokens.sees(FUN)) {
                    readFun();
                } else if (tokens.sees(TABLE)) {
                    readTable();
                } else {
                    tokens.fail();
                }
                hasMore = !tokens.failed && !tokens.sees(END);
            }
            int error = tokens.failed ? 1 : complaint;
            if (error != 0) {
                program.clear();
            }
            return error;
        }

        int errorPlace() {
            if (tokens.failed) {
                return tokens.startHere();
            }
            return complaint == 0 ? -1 : complaintAt;
        }

        /** The first complaint stays. */
        private void complain(int error, int place) {
            if (complaint == 0) {
                complaint = error;
                complaintAt = place;
            }
        }

        private int readWhole(int least, int most) {
            boolean isNegative = tokens.passes(MINUS);
            int at = tokens.startHere();
            int number = (int) tokens.valueHere();
            tokens.expect(NUMBER);
            int whole = isNegative ? -number : number;
            if (whole < least || whole > most) {
                complain(5, at);
            }
            return whole;
        }

        // -- items

        private long readItemName() {
            long name = tokens.valueHere();
            int at = tokens.startHere();
            if (tokens.expect(NAME) && program.hasItem(name)) {
                complain(3, at);
            }
            return name;
        }

        private void readFun() {
            if (program.funCount >= MAX_FUNS) {
                complain(4, tokens.startHere());
            }
            tokens.expect(FUN);
            fun = program.nextFun();
            int nameAt = tokens.startHere();
            fun.name = readItemName();
            tokens.expect(OPEN);
            readInput();
            for (int inputs = 1; inputs < MAX_TAPE && tokens.passes(COMMA); inputs++) {
                readInput();
            }
            tokens.expect(CLOSE);
            tokens.expect(EQUAL);
            readBody();
            if (fun.size > MAX_SIZE) {
                complain(4, nameAt);
            }
            tokens.expect(SEMICOLON);
            program.keepFun();
        }

        private void readInput() {
            long name = tokens.valueHere();
            int at = tokens.startHere();
            tokens.expect(NAME);
            if (fun.inputCount >= MAX_INPUTS) {
                complain(4, at);
            } else if (fun.inputNamed(name) >= 0) {
                complain(3, at);
            }
            tokens.expect(IN);
            int low = readWhole(-MAX_BOUND, MAX_BOUND);
            tokens.expect(DOTS);
            int high = readWhole(low, MAX_BOUND);
            fun.addInput(name, low, high);
        }

        private void readTable() {
            if (program.tableCount >= MAX_TABLES) {
                complain(4, tokens.startHere());
            }
            tokens.expect(TABLE);
            table = program.nextTable();
            table.name = readItemName();
            tokens.expect(OF);
            int at = tokens.startHere();
            table.fun = program.funNamed(tokens.valueHere());
            tokens.expect(NAME);
            if (table.fun < 0) {
                complain(2, at);
            }
            fun = program.funAt(table.fun);
            tokens.expect(COLON);
            readRow();
            for (int rows = 1; rows < MAX_TAPE && tokens.passes(BAR); rows++) {
                readRow();
            }
            tokens.expect(SEMICOLON);
            program.keepTable();
        }

        private void readRow() {
            int at = tokens.startHere();
            if (table.rowCount >= MAX_ROWS) {
                complain(4, at);
            }
            Row row = table.nextRow();
            readCell(row, 0);
            int cells = 1;
            while (cells < MAX_TAPE && tokens.passes(COMMA)) {
                readCell(row, cells);
                cells++;
            }
            if (cells != fun.inputCount) {
                complain(6, at);
            }
            tokens.expect(COLON);
            readResult(row);
            table.keepRow();
            if (table.caseCount > MAX_CASES) {
                complain(4, at);
            }
        }

        /** A cell too much is read for its form alone, so that any number may stand in it. */
        private void readCell(Row row, int input) {
            boolean isChecked = input < fun.inputCount;
            int least = isChecked ? fun.ranges.low(input) : -MAX_NUMBER;
            int most = isChecked ? fun.ranges.high(input) : MAX_NUMBER;
            if (tokens.passes(STAR)) {
                row.ranges.put(input, least, most);
                return;
            }
            int low = readWhole(least, most);
            int high = tokens.passes(DOTS) ? readWhole(isChecked ? low : least, most) : low;
            row.ranges.put(input, low, high);
        }

        private void readResult(Row row) {
            int compare = tokens.oneOf(EQUAL, GREATER_EQUAL);
            if (tokens.passes(compare)) {
                row.result = compare;
                row.number = readWhole(-MAX_NUMBER, MAX_NUMBER);
            } else if (tokens.passes(ANY)) {
                row.result = ANY;
            } else {
                tokens.expect(ERROR);
                row.result = ERROR;
            }
        }

        // -- expressions

        private void readBody() {
            int first = tokens.position;
            tokens.allow(MAX_TOKENS);
            readExpression(0);
            tokens.allowAll();
            fun.size += tokens.position - first;
        }

        private void readExpression(int depth) {
            if (tokens.sees(IF)) {
                readChoice(depth);
                return;
            }
            readBoth(depth);
            for (int terms = 1; terms < MAX_TOKENS && tokens.passes(OR); terms++) {
                int skip = fun.emit(OR, 0, fun.nextPlace());
                readBoth(depth);
                endSecond(skip);
            }
        }

        private void readBoth(int depth) {
            readRelation(depth);
            for (int terms = 1; terms < MAX_TOKENS && tokens.passes(AND); terms++) {
                int skip = fun.emit(AND, 0, fun.nextPlace());
                readRelation(depth);
                endSecond(skip);
            }
        }

        /** Behind the right side of an and or an or, where the left one leads to if it tells the value alone. */
        private void endSecond(int skip) {
            fun.emit(TRUTH, 0, NO_PLACE);
            fun.aimHere(skip);
        }

        private void readChoice(int depth) {
            if (depth >= MAX_DEPTH) {
                tokens.fail();
                return;
            }
            tokens.expect(IF);
            int place = fun.nextPlace();
            int number = program.nextIf();
            readExpression(depth + 1);
            fun.emit(IF, number, place);
            int toElse = fun.emit(JUMP, 0, NO_PLACE);
            tokens.expect(THEN);
            readExpression(depth + 1);
            int toEnd = fun.emit(JUMP, 0, NO_PLACE);
            tokens.expect(ELSE);
            fun.aimHere(toElse);
            readExpression(depth + 1);
            fun.aimHere(toEnd);
        }

        private void readRelation(int depth) {
            readSum(depth);
            int operator = tokens.oneOf(EQUAL, GREATER_EQUAL);
            if (tokens.passes(operator)) {
                int place = fun.nextPlace();
                readSum(depth);
                fun.emit(operator, 0, place);
            }
        }

        private void readSum(int depth) {
            readProduct(depth);
            int operator = tokens.oneOf(PLUS, MINUS);
            for (int terms = 1; terms < MAX_TOKENS && tokens.passes(operator); terms++) {
                int place = fun.nextPlace();
                readProduct(depth);
                fun.emit(operator, 0, place);
                operator = tokens.oneOf(PLUS, MINUS);
            }
        }

        private void readProduct(int depth) {
            readFactor(depth);
            int operator = tokens.oneOf(STAR, PERCENT);
            for (int terms = 1; terms < MAX_TOKENS && tokens.passes(operator); terms++) {
                int place = fun.nextPlace();
                readFactor(depth);
                fun.emit(operator, 0, place);
                operator = tokens.oneOf(STAR, PERCENT);
            }
        }

        private void readFactor(int depth) {
            long value = tokens.valueHere();
            int at = tokens.startHere();
            if (tokens.passes(NUMBER)) {
                fun.emit(NUMBER, (int) value, fun.nextPlace());
            } else if (tokens.passes(NAME)) {
                readNamed(value, at, depth);
            } else if (depth >= MAX_DEPTH) {
                tokens.fail();
            } else if (tokens.passes(OPEN)) {
                readExpression(depth + 1);
                tokens.expect(CLOSE);
            } else if (tokens.passes(MINUS)) {
                readFactor(depth + 1);
                fun.emit(NEGATE, 0, NO_PLACE);
            } else if (tokens.passes(NOT)) {
                readFactor(depth + 1);
                fun.emit(NOT, 0, NO_PLACE);
            } else {
                tokens.fail();
            }
        }

        private void readNamed(long name, int at, int depth) {
            if (tokens.sees(OPEN)) {
                readArguments(name, at, depth);
                return;
            }
            int input = fun.inputNamed(name);
            if (input < 0) {
                complain(2, at);
            }
            fun.emit(INPUT, input, NO_PLACE);
        }

        private void readArguments(long name, int at, int depth) {
            if (depth >= MAX_DEPTH) {
                tokens.fail();
                return;
            }
            tokens.expect(OPEN);
            int number = program.funNamed(name);
            if (number < 0) {
                complain(2, at);
            }
            readExpression(depth + 1);
            int arguments = 1;
            while (arguments < MAX_TOKENS && tokens.passes(COMMA)) {
                readExpression(depth + 1);
                arguments++;
            }
            tokens.expect(CLOSE);
            Fun called = program.funAt(number);
            if (arguments != called.inputCount) {
                complain(6, at);
            }
            fun.size += called.size;
            fun.emit(CALL, number, NO_PLACE);
        }
    }

    /** The functions and tables of the latest compile, in objects that every compile uses again. */
    private static final class Program {
        private final Fun[] funs = new Fun[MAX_FUNS];
        private final Table[] tables = new Table[MAX_TABLES];
        // These take what a program has too much, until it is thrown away.
        private final Fun spareFun = new Fun();
        private final Table spareTable = new Table();
        private int funCount;
        private int tableCount;
        private int ifCount;

        Program() {
            for (int i = 0; i < funs.length; i++) {
                funs[i] = new Fun();
            }
            for (int i = 0; i < tables.length; i++) {
                tables[i] = new Table();
            }
        }

        void clear() {
            funCount = 0;
            tableCount = 0;
            ifCount = 0;
        }

        Fun funAt(int number) {
            Fun found = number >= 0 && number < funs.length ? funs[number] : null;
            return found == null ? spareFun : found;
        }

        Table tableAt(int number) {
            Table found = number >= 0 && number < tables.length ? tables[number] : null;
            return found == null ? spareTable : found;
        }

        Fun nextFun() {
            Fun next = funAt(funCount);
            next.clear();
            return next;
        }

        void keepFun() {
            if (funCount < MAX_FUNS) {
                funCount++;
            }
        }

        Table nextTable() {
            Table next = tableAt(tableCount);
            next.clear();
            return next;
        }

        void keepTable() {
            if (tableCount < MAX_TABLES) {
                tableCount++;
            }
        }

        int nextIf() {
            ifCount++;
            return ifCount - 1;
        }

        /** The number of the function with a name; -1 if there is none. */
        int funNamed(long name) {
            for (int i = 0; i < funCount; i++) {
                if (funAt(i).name == name) {
                    return i;
                }
            }
            return -1;
        }

        boolean hasItem(long name) {
            for (int i = 0; i < tableCount; i++) {
                if (tableAt(i).name == name) {
                    return true;
                }
            }
            return funNamed(name) >= 0;
        }

        int tablesOf(int fun) {
            int found = 0;
            for (int i = 0; i < tableCount; i++) {
                if (tableAt(i).fun == fun) {
                    found++;
                }
            }
            return found;
        }

        int caseCount() {
            int cases = 0;
            for (int i = 0; i < tableCount; i++) {
                cases += tableAt(i).caseCount;
            }
            return cases;
        }
    }

    /** A range for each input. An input that is not there has the range 0 to 0, so that it adds no rows. */
    private static final class Ranges {
        private final int[] lows = new int[MAX_INPUTS];
        private final int[] highs = new int[MAX_INPUTS];

        void clear() {
            for (int input = 0; input < MAX_INPUTS; input++) {
                put(input, 0, 0);
            }
        }

        void put(int input, int low, int high) {
            if (input >= 0 && input < lows.length && input < highs.length) {
                lows[input] = low;
                highs[input] = high;
            }
        }

        int low(int input) {
            return input >= 0 && input < lows.length ? lows[input] : 0;
        }

        int high(int input) {
            return input >= 0 && input < highs.length ? highs[input] : 0;
        }

        int width(int input) {
            return high(input) - low(input) + 1;
        }

        /** The number of rows of inputs out of the ranges. */
        int rowCount() {
            return width(0) * width(1) * width(2);
        }

        /** An input in one of the rows: the last input changes from row to row, the first one least often. */
        int valueAt(int row, int input) {
            int repeats = 1;
            for (int later = input + 1; later < MAX_INPUTS; later++) {
                repeats *= width(later);
            }
            int width = width(input);
            if (repeats < 1 || width < 1) {
                return 0;
            }
            return low(input) + row / repeats % width;
        }
    }

    /** A function: its inputs, and its expression as instructions for a stack, whose jumps all lead forward. */
    private static final class Fun {
        private final long[] inputNames = new long[MAX_INPUTS];
        private final Ranges ranges = new Ranges();
        private final int[] operations = new int[MAX_CODE];
        private final int[] operands = new int[MAX_CODE];
        private final int[] places = new int[MAX_CODE];
        private long name;
        private int inputCount;
        private int codeLength;
        private int placeCount;
        private int size;

        void clear() {
            ranges.clear();
            name = 0;
            inputCount = 0;
            codeLength = 0;
            placeCount = 0;
            size = 0;
        }

        void addInput(long inputName, int low, int high) {
            if (inputCount >= 0 && inputCount < inputNames.length) {
                inputNames[inputCount] = inputName;
                ranges.put(inputCount, low, high);
                inputCount++;
            }
        }

        int inputNamed(long inputName) {
            for (int i = 0; i < inputCount && i < inputNames.length; i++) {
                if (inputNames[i] == inputName) {
                    return i;
                }
            }
            return -1;
        }

        int nextPlace() {
            placeCount++;
            return placeCount - 1;
        }

        /** Returns where the instruction stands. */
        int emit(int operation, int operand, int place) {
            int at = codeLength;
            if (at >= 0 && at < operations.length && at < operands.length && at < places.length) {
                operations[at] = operation;
                operands[at] = operand;
                places[at] = place;
                codeLength++;
            }
            return at;
        }

        void aimHere(int jump) {
            if (jump >= 0 && jump < operands.length) {
                operands[jump] = codeLength;
            }
        }

        int operationAt(int at) {
            return at >= 0 && at < operations.length ? operations[at] : TRUTH;
        }

        int operandAt(int at) {
            return at >= 0 && at < operands.length ? operands[at] : 0;
        }

        int placeAt(int at) {
            return at >= 0 && at < places.length ? places[at] : NO_PLACE;
        }

        int pairCount() {
            int pairs = ranges.width(0) * ranges.width(1);
            if (inputCount == MAX_INPUTS) {
                pairs += ranges.width(0) * ranges.width(2) + ranges.width(1) * ranges.width(2);
            }
            return pairs;
        }
    }

    /** A row of a table: the cases that it tells, and what is to come out. */
    private static final class Row {
        private final Ranges ranges = new Ranges();
        private int result;
        private long number;
        // A bit for each place whose change the row finds; it stays true, as neither row nor function changes.
        private long found;
        private boolean isSearched;

        void clear() {
            ranges.clear();
            result = ANY;
            number = 0;
            isSearched = false;
        }

        boolean admits(boolean hasFailed, long value) {
            if (result == ERROR) {
                return hasFailed;
            }
            return !hasFailed && (result == ANY || isRelated(result, value, number));
        }
    }

    /** A table of cases for a function. */
    private static final class Table {
        private final Row[] rows = new Row[MAX_ROWS];
        private final Row spareRow = new Row();
        private final boolean[] holding = new boolean[MAX_CASES];
        private long name;
        private int fun;
        private int rowCount;
        private int caseCount;

        void clear() {
            name = 0;
            fun = 0;
            rowCount = 0;
            caseCount = 0;
        }

        Row rowAt(int number) {
            Row found = number >= 0 && number < rows.length ? rows[number] : null;
            return found == null ? spareRow : found;
        }

        /** An empty row behind the last one, which keepRow() adds. */
        Row nextRow() {
            if (rowCount >= 0 && rowCount < rows.length && rows[rowCount] == null) {
                rows[rowCount] = new Row();
            }
            Row next = rowAt(rowCount);
            next.clear();
            return next;
        }

        void keepRow() {
            caseCount += rowAt(rowCount).ranges.rowCount();
            if (rowCount < MAX_ROWS) {
                rowCount++;
            }
        }

        void drop(int number) {
            Row dropped = rowAt(number);
            caseCount -= dropped.ranges.rowCount();
            rowCount--;
            for (int i = number; i >= 0 && i < rowCount && i < rows.length; i++) {
                rows[i] = rowAt(i + 1);
            }
            // The dropped row goes to the end, to be used again.
            if (rowCount >= 0 && rowCount < rows.length) {
                rows[rowCount] = dropped;
            }
        }

        int valueAt(int index, int input) {
            int left = index;
            for (int i = 0; i < rowCount; i++) {
                Ranges ranges = rowAt(i).ranges;
                if (left < ranges.rowCount()) {
                    return ranges.valueAt(left, input);
                }
                left -= ranges.rowCount();
            }
            return 0;
        }

        void note(int index, boolean isHolding) {
            if (index >= 0 && index < holding.length) {
                holding[index] = isHolding;
            }
        }

        boolean isHolding(int index) {
            return index >= 0 && index < holding.length && holding[index];
        }

        /** What table() tells, in its order; what holds is as noted. */
        int tell(int what) {
            switch (what) {
                case 0:
                    return fun;
                case 1:
                    return rowCount;
                case 2:
                    return caseCount;
                case 3:
                    return holdingCount();
                default:
                    return firstNotHolding();
            }
        }

        int holdingCount() {
            int held = 0;
            for (int i = 0; i < caseCount; i++) {
                if (isHolding(i)) {
                    held++;
                }
            }
            return held;
        }

        int firstNotHolding() {
            for (int i = 0; i < caseCount; i++) {
                if (!isHolding(i)) {
                    return i;
                }
            }
            return -1;
        }
    }

    /** Reckons functions, and counts the branches that are taken when it is told to. */
    private static final class Machine {
        private final Program program;
        private final long[] stack = new long[MAX_STACK];
        private final int[] thenCounts = new int[MAX_IFS];
        private final int[] elseCounts = new int[MAX_IFS];
        private int top;
        private boolean failed;
        private boolean isCounting;

        Machine(Program program) {
            this.program = program;
        }

        /** The value of a function with a change at a place, or none; it is 0 if hasFailed() tells an error. */
        long reckon(int fun, int changedPlace, long a, long b, long c) {
            failed = false;
            top = 0;
            push(a);
            push(b);
            push(c);
            run(fun, 0, changedPlace);
            return failed ? 0 : pop();
        }

        boolean hasFailed() {
            return failed;
        }

        void startCounting() {
            isCounting = true;
            for (int i = 0; i < thenCounts.length; i++) {
                thenCounts[i] = 0;
            }
            for (int i = 0; i < elseCounts.length; i++) {
                elseCounts[i] = 0;
            }
        }

        void stopCounting() {
            isCounting = false;
        }

        int branchCount(int number, boolean isThen) {
            int[] counts = isThen ? thenCounts : elseCounts;
            return number >= 0 && number < counts.length ? counts[number] : 0;
        }

        private void countBranch(int number, boolean isThen) {
            int[] counts = isThen ? thenCounts : elseCounts;
            if (isCounting && number >= 0 && number < counts.length) {
                counts[number]++;
            }
        }

        private void push(long value) {
            if (top >= 0 && top < stack.length) {
                stack[top] = value;
                top++;
            }
        }

        private long pop() {
            if (top <= 0 || top > stack.length) {
                return 0;
            }
            top--;
            return stack[top];
        }

        private long valueAt(int place) {
            return place >= 0 && place < stack.length ? stack[place] : 0;
        }

        /** Runs a function whose inputs lie on the stack from base on, and lays its value on top. */
        private void run(int number, int base, int changedPlace) {
            Fun fun = program.funAt(number);
            int at = 0;
            for (int steps = 0; steps < MAX_CODE && at < fun.codeLength && !failed; steps++) {
                int operation = fun.operationAt(at);
                int operand = fun.operandAt(at);
                boolean isChanged = changedPlace != NO_PLACE && fun.placeAt(at) == changedPlace;
                at++;
                switch (operation) {
                    case INPUT:
                        push(valueAt(base + operand));
                        break;
                    case NUMBER:
                        push(isChanged ? operand + 1 : operand);
                        break;
                    case CALL:
                        runCalled(number, operand);
                        break;
                    case IF:
                        // Behind it stands the jump to the other branch, which the first one leaves out.
                        at += takesThen(operand, isChanged) ? 1 : 0;
                        break;
                    case JUMP:
                        at = operand;
                        break;
                    case AND:
                        at = isDecided(isChanged) ? operand : at;
                        break;
                    case OR:
                        at = isDecided(!isChanged) ? operand : at;
                        break;
                    default:
                        apply(isChanged ? changedOperator(operation) : operation);
                        break;
                }
            }
        }

        /** A function calls only those told ahead of it, so that at most six stand open at once. */
        private void runCalled(int caller, int called) {
            if (called < 0 || called >= caller) {
                failed = true;
                return;
            }
            int base = top - program.funAt(called).inputCount;
            run(called, base, NO_PLACE);
            long value = pop();
            top = base;
            push(value);
        }

        private boolean takesThen(int number, boolean isChanged) {
            boolean isTrue = pop() != 0;
            boolean isThen = isTrue != isChanged;
            countBranch(number, isThen);
            return isThen;
        }

        /** Whether the left side of an or, or of an and, tells the value, which is laid back then. */
        private boolean isDecided(boolean isOr) {
            boolean isTrue = pop() != 0;
            if (isTrue != isOr) {
                return false;
            }
            push(isTrue ? 1 : 0);
            return true;
        }

        private void apply(int operator) {
            long right = pop();
            switch (operator) {
                case NEGATE:
                    push(-right);
                    break;
                case NOT:
                    push(right == 0 ? 1 : 0);
                    break;
                case TRUTH:
                    push(right == 0 ? 0 : 1);
                    break;
                case PLUS:
                    push(pop() + right);
                    break;
                case MINUS:
                    push(pop() - right);
                    break;
                case STAR:
                    push(pop() * right);
                    break;
                case SLASH:
                case PERCENT:
                    if (right == 0) {
                        failed = true;
                    } else {
                        long divided = pop();
                        push(operator == SLASH ? divided / right : divided % right);
                    }
                    break;
                default:
                    push(isRelated(operator, pop(), right) ? 1 : 0);
                    break;
            }
        }

        private static int changedOperator(int operator) {
            switch (operator) {
                case EQUAL:
                    return UNEQUAL;
                case UNEQUAL:
                    return EQUAL;
                case LESS:
                    return LESS_EQUAL;
                case LESS_EQUAL:
                    return LESS;
                case GREATER:
                    return GREATER_EQUAL;
                case GREATER_EQUAL:
                    return GREATER;
                case PLUS:
                    return MINUS;
                case MINUS:
                    return PLUS;
                case STAR:
                    return SLASH;
                default:
                    return STAR;
            }
        }
    }

    private static boolean isRelated(int compare, long left, long right) {
        switch (compare) {
            case EQUAL:
                return left == right;
            case UNEQUAL:
                return left != right;
            case LESS:
                return left < right;
            case LESS_EQUAL:
                return left <= right;
            case GREATER:
                return left > right;
            default:
                return left >= right;
        }
    }

    /** Runs the cases of tables. */
    private static final class Runner {
        private final Program program;
        private final Machine machine;
        private boolean isFresh;

        Runner(Program program, Machine machine) {
            this.program = program;
            this.machine = machine;
        }

        /** The tables have changed: what the last run of all cases told is no longer so. */
        void forget() {
            isFresh = false;
        }

        /** Runs all cases of all tables once, if that is not done yet: which hold, which branches are taken. */
        void refresh() {
            if (isFresh) {
                return;
            }
            isFresh = true;
            machine.startCounting();
            for (int number = 0; number < program.tableCount; number++) {
                runTable(program.tableAt(number));
            }
            machine.stopCounting();
        }

        private void runTable(Table table) {
            int cases = 0;
            for (int number = 0; number < table.rowCount; number++) {
                Row row = table.rowAt(number);
                int rowCases = row.ranges.rowCount();
                for (int index = 0; index < rowCases; index++) {
                    table.note(cases + index, isHolding(table.fun, row, index, NO_PLACE));
                }
                cases += rowCases;
            }
        }

        private boolean isHolding(int fun, Row row, int index, int place) {
            Ranges ranges = row.ranges;
            long value = machine.reckon(
                    fun, place, ranges.valueAt(index, 0), ranges.valueAt(index, 1), ranges.valueAt(index, 2));
            return row.admits(machine.hasFailed(), value);
        }

        /** A bit for each place whose change is found by the rows of a table but one, or by all of them. */
        long changesFound(Table table, Row leftOut) {
            long found = 0;
            for (int number = 0; number < table.rowCount; number++) {
                Row row = table.rowAt(number);
                if (row != leftOut) {
                    search(table.fun, row);
                    found |= row.found;
                }
            }
            return found;
        }

        private void search(int fun, Row row) {
            if (row.isSearched) {
                return;
            }
            row.isSearched = true;
            row.found = 0;
            int cases = row.ranges.rowCount();
            int places = program.funAt(fun).placeCount;
            for (int index = 0; index < cases; index++) {
                boolean heldBefore = isHolding(fun, row, index, NO_PLACE);
                for (int place = 0; place < places && heldBefore; place++) {
                    boolean isKnown = (row.found >> place & 1) != 0;
                    if (!isKnown && !isHolding(fun, row, index, place)) {
                        row.found |= 1L << place;
                    }
                }
            }
        }
    }

    /**
     * The pairs of a function that are not tried, a bit for each: a mask over the values of the second input for
     * each value of the first one. A single input is paired with the second input that is not there.
     */
    private static final class Untried {
        private final long[] firstSecond = new long[MAX_WIDTH];
        private final long[] firstThird = new long[MAX_WIDTH];
        private final long[] secondThird = new long[MAX_WIDTH];
        private int firstWidth;
        private int secondWidth;
        private int thirdWidth;

        void begin(Fun fun) {
            firstWidth = fun.ranges.width(0);
            secondWidth = fun.ranges.width(1);
            thirdWidth = fun.ranges.width(2);
            boolean hasThird = fun.inputCount == MAX_INPUTS;
            fill(firstSecond, firstWidth, secondWidth);
            fill(firstThird, hasThird ? firstWidth : 0, thirdWidth);
            fill(secondThird, hasThird ? secondWidth : 0, thirdWidth);
        }

        void strikeTable(Ranges all, Table table) {
            for (int number = 0; number < table.rowCount; number++) {
                Ranges tried = table.rowAt(number).ranges;
                strike(firstSecond, all, tried, 0, 1);
                strike(firstThird, all, tried, 0, 2);
                strike(secondThird, all, tried, 1, 2);
            }
        }

        int pairCount() {
            return bits(firstSecond) + bits(firstThird) + bits(secondThird);
        }

        /** The first of the rows of inputs with the most pairs; -1 if there is no pair. */
        int bestRow() {
            int best = -1;
            int most = 0;
            for (int first = 0; first < firstWidth; first++) {
                for (int second = 0; second < secondWidth; second++) {
                    int third = bestThird(first, second);
                    int pairs = pairsIn(first, second, third);
                    if (pairs > most) {
                        most = pairs;
                        best = (first * secondWidth + second) * thirdWidth + third;
                    }
                }
            }
            return best;
        }

        /** The first third value with the most pairs, beside a first and a second one. */
        private int bestThird(int first, int second) {
            long ofFirst = maskAt(firstThird, first);
            long ofSecond = maskAt(secondThird, second);
            long ofBoth = ofFirst & ofSecond;
            return lowestBit(ofBoth == 0 ? ofFirst | ofSecond : ofBoth);
        }

        private int pairsIn(int first, int second, int third) {
            return bitAt(firstSecond, first, second) + bitAt(firstThird, first, third)
                    + bitAt(secondThird, second, third);
        }

        private static void fill(long[] masks, int rows, int columns) {
            for (int i = 0; i < masks.length; i++) {
                masks[i] = i < rows ? upTo(columns) : 0;
            }
        }

        private static void strike(long[] masks, Ranges all, Ranges tried, int first, int second) {
            long struck = upTo(tried.high(second) - all.low(second) + 1) & ~upTo(tried.low(second) - all.low(second));
            int last = tried.high(first) - all.low(first);
            for (int i = tried.low(first) - all.low(first); i <= last; i++) {
                if (i >= 0 && i < masks.length) {
                    masks[i] &= ~struck;
                }
            }
        }

        /** The number of the lowest bit; 0 if there is none. */
        private static int lowestBit(long mask) {
            return mask == 0 ? 0 : Long.bitCount((mask & -mask) - 1);
        }

        /** The lowest bits, fewer than 64. */
        private static long upTo(int bits) {
            return (1L << bits) - 1;
        }

        private static int bits(long[] masks) {
            int sum = 0;
            for (int i = 0; i < masks.length; i++) {
                sum += Long.bitCount(masks[i]);
            }
            return sum;
        }

        private static long maskAt(long[] masks, int row) {
            return row >= 0 && row < masks.length ? masks[row] : 0;
        }

        private static int bitAt(long[] masks, int row, int column) {
            return (int) (maskAt(masks, row) >> column & 1);
        }
    }
}
