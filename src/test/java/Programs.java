import java.util.ArrayList;
import java.util.List;
import java.util.Random;

/** Writes programs out of a row of numbers that is the same in every run, many of them with an error. */
final class Programs {
    private static final String[] WORDS = {
        "fun", "in", "if", "then", "else", "and", "or", "not", "table", "of", "any", "error", "(", ")", ",", ";",
        ":", "|", "=", "+", "-", "*", "/", "%", "<", ">", "<=", ">=", "<>", "..", "a", "b", "c", "f0", "f1", "0", "1",
        "7", "20", "21", "9999", "12345", "abcdefgh", "abcdefghi", ".", "A", "\t", "#"
    };
    private static final String[] COMPARES = {"=", "<>", "<", ">", "<=", ">="};
    private static final String[] OPERATORS = {"+", "-", "*", "/", "%", "and", "or"};
    private static final String[] INPUTS = {"a", "b", "c", "d"};

    private final Random random;
    private final List<String> tokens = new ArrayList<>();
    private final List<int[][]> ranges = new ArrayList<>();

    Programs(Random random) {
        this.random = random;
    }

    /** A program of at most 1500 bytes. */
    String next() {
        String text;
        do {
            tokens.clear();
            ranges.clear();
            writeItems();
            for (int i = random.nextInt(8) < 4 ? 0 : random.nextInt(3); i > 0; i--) {
                spoil();
            }
            text = joined();
        } while (text.length() > 1500);
        return text;
    }

    private boolean oneIn(int chances) {
        return random.nextInt(chances) == 0;
    }

    private int between(int low, int high) {
        return low + random.nextInt(high - low + 1);
    }

    private void add(String... words) {
        for (String word : words) {
            tokens.add(word);
        }
    }

    private void addWhole(int whole) {
        if (whole < 0) {
            add("-");
        }
        add(String.valueOf(Math.abs(whole)));
    }

    private void writeItems() {
        int funs = oneIn(20) ? between(6, 7) : between(1, 4);
        int tables = oneIn(20) ? between(6, 7) : between(0, 4);
        writeFun();
        for (int left = funs - 1 + tables; left > 0; left--) {
            if (random.nextInt(left) < funs - ranges.size()) {
                writeFun();
            } else {
                writeTable();
            }
        }
    }

    private void writeFun() {
        int number = ranges.size();
        int inputs = oneIn(60) ? 4 : between(1, 3);
        int[][] own = new int[inputs][];
        add("fun", "f" + (oneIn(60) ? 0 : number), "(");
        for (int i = 0; i < inputs; i++) {
            int low = between(-20, 20);
            int high = Math.min(20, low + between(0, 4));
            if (oneIn(12)) {
                low = -20;
                high = inputs < 3 ? 20 : -8;
            }
            own[i] = new int[] {low, high};
            add(INPUTS[oneIn(100) ? 0 : i], "in");
            addWhole(oneIn(150) ? -21 : low);
            add("..");
            addWhole(oneIn(150) ? low - 1 : high);
            if (i < inputs - 1) {
                add(",");
            }
        }
        add(")", "=");
        writeExpression(inputs, between(0, 8), number);
        add(";");
        ranges.add(own);
    }

    private void writeExpression(int inputs, int left, int ahead) {
        int kind = random.nextInt(left <= 0 ? 2 : 12);
        switch (kind) {
            case 0:
                add(oneIn(100) ? "x" : INPUTS[random.nextInt(inputs)]);
                break;
            case 1:
                add(String.valueOf(oneIn(6) ? random.nextInt(10000) : random.nextInt(4)));
                break;
            case 2:
                add("(");
                writeExpression(inputs, left - 1, ahead);
                add(")");
                break;
            case 3:
                add(oneIn(2) ? "-" : "not");
                writeOperand(inputs, left - 2, ahead);
                break;
            case 4:
            case 5:
                writeChoice(inputs, left, ahead);
                break;
            case 6:
                writeCall(inputs, left, ahead);
                break;
            default:
                writeChain(inputs, left, ahead);
                break;
        }
    }

    /** Operands without brackets around; one compare at most, so that the form is mostly right. */
    private void writeChain(int inputs, int left, int ahead) {
        int operands = between(2, 4);
        int comparedAt = between(1, 5);
        writeOperand(inputs, left, ahead);
        for (int i = 1; i < operands; i++) {
            add(i == comparedAt || oneIn(100) ? COMPARES[random.nextInt(6)] : OPERATORS[random.nextInt(7)]);
            writeOperand(inputs, left, ahead);
        }
    }

    private void writeOperand(int inputs, int left, int ahead) {
        if (oneIn(100)) {
            writeExpression(inputs, left - 2, ahead);
        } else if (oneIn(3)) {
            add("(");
            writeExpression(inputs, left - 2, ahead);
            add(")");
        } else if (oneIn(4)) {
            writeCall(inputs, left, ahead);
        } else {
            writeExpression(inputs, 0, ahead);
        }
    }

    private void writeChoice(int inputs, int left, int ahead) {
        boolean isBracketed = oneIn(2);
        if (isBracketed) {
            add("(");
        }
        add("if");
        writeExpression(inputs, left - 2, ahead);
        add("then");
        writeExpression(inputs, left - 2, ahead);
        add("else");
        writeExpression(inputs, left - 2, ahead);
        if (isBracketed) {
            add(")");
        }
    }

    private void writeCall(int inputs, int left, int ahead) {
        int number = oneIn(80) ? ahead : random.nextInt(Math.max(1, ahead));
        int arguments = number < ranges.size() && !oneIn(60) ? ranges.get(number).length : between(1, 3);
        if (ahead == 0 && !oneIn(30)) {
            add(INPUTS[0]);
            return;
        }
        add("f" + number, "(");
        for (int i = 0; i < arguments; i++) {
            writeExpression(inputs, left - 3, ahead);
            if (i < arguments - 1) {
                add(",");
            }
        }
        add(")");
    }

    private void writeTable() {
        int fun = random.nextInt(ranges.size());
        int rows = oneIn(15) ? between(11, 13) : between(1, 5);
        add("table", oneIn(80) ? "f0" : "t" + tokens.size() % 1000, "of", "f" + (oneIn(80) ? 9 : fun), ":");
        for (int i = 0; i < rows; i++) {
            writeRow(ranges.get(fun));
            if (i < rows - 1) {
                add("|");
            }
        }
        add(";");
    }

    private void writeRow(int[][] own) {
        int cells = oneIn(80) ? between(1, 4) : own.length;
        for (int i = 0; i < cells; i++) {
            int[] range = own[Math.min(i, own.length - 1)];
            int low = oneIn(150) ? range[1] + 1 : between(range[0], range[1]);
            if (oneIn(5)) {
                add("*");
            } else {
                addWhole(low);
                if (oneIn(4)) {
                    add("..");
                    addWhole(oneIn(40) ? low - 1 : between(Math.min(low, range[1]), range[1]));
                }
            }
            if (i < cells - 1) {
                add(",");
            }
        }
        add(":");
        if (oneIn(6)) {
            add(oneIn(2) ? "any" : "error");
        } else {
            add(COMPARES[random.nextInt(6)]);
            addWhole(between(-3, 3));
        }
    }

    private void spoil() {
        int at = random.nextInt(tokens.size());
        String word = WORDS[random.nextInt(WORDS.length)];
        switch (random.nextInt(4)) {
            case 0:
                tokens.remove(at);
                if (tokens.isEmpty()) {
                    add(word);
                }
                break;
            case 1:
                tokens.add(at, word);
                break;
            case 2:
                tokens.set(at, word);
                break;
            default:
                tokens.add(at, tokens.get(random.nextInt(tokens.size())));
                break;
        }
    }

    private String joined() {
        StringBuilder text = new StringBuilder();
        boolean isTight = oneIn(2);
        for (String token : tokens) {
            boolean isGlued = text.length() > 0 && isWordSign(text.charAt(text.length() - 1))
                    && isWordSign(token.charAt(0));
            if (isGlued && !oneIn(200) || !isTight && oneIn(3)) {
                text.append(oneIn(4) ? "\n" : oneIn(6) ? "  " : " ");
            }
            text.append(token);
        }
        if (oneIn(10)) {
            text.setCharAt(random.nextInt(text.length()), (char) random.nextInt(256));
        }
        return text.toString();
    }

    private static boolean isWordSign(char sign) {
        return sign >= 'a' && sign <= 'z' || sign >= '0' && sign <= '9';
    }
}
