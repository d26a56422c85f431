import java.math.BigInteger;

/** The boundaries of "2. Functions" and of the promises 7 to 11, each by the words of the document that name it. */
final class FunctionEdges {
    private static final int MOST = Integer.MAX_VALUE;
    private static final int LEAST = Integer.MIN_VALUE;

    private FunctionEdges() {
    }

    static void run() {
        Doc.each(
            FunctionEdges::wrapsAround, FunctionEdges::cutTowardsZero, FunctionEdges::yieldsOneOrZero,
            FunctionEdges::whatIsTrue, FunctionEdges::rightOfAnd, FunctionEdges::rightOfOr,
            FunctionEdges::dividedByZero, FunctionEdges::signOfRemainder, FunctionEdges::fromLeftToRight,
            FunctionEdges::errorEndsAtOnce, FunctionEdges::rangesDoNotMatter, FunctionEdges::ifsOverTheProgram,
            FunctionEdges::placesFromZero, FunctionEdges::numberBecomesGreater,
            FunctionEdges::operatorsBecomeEachOther, FunctionEdges::remainderBecomesProduct,
            FunctionEdges::ifTakesTheOther, FunctionEdges::sidesStayAsRead, FunctionEdges::changeInItselfAlone,
            FunctionEdges::funWhat, FunctionEdges::funThrows, FunctionEdges::callInputs,
            FunctionEdges::callThrowsNoFunction, FunctionEdges::callThrowsError, FunctionEdges::changedThrowsNoPlace,
            FunctionEdges::changedThrowsError, FunctionEdges::inputOfThrows, FunctionEdges::inputOfOrder,
            FunctionEdges::proposeAllTried, FunctionEdges::proposeThrows);
    }

    private static void says(String words) {
        Doc.says("2. Functions", words);
    }

    private static CaseTables of(String body) {
        return Text.compiled("fun f(a in 0..3, b in -2..2, c in 1..2) = " + body + ";");
    }

    private static void value(long due, String body, int a, int b, int c) {
        CaseTables bench = of(body);
        Check.same(body + " of " + a + " " + b + " " + c, due, () -> bench.call(0, a, b, c));
    }

    private static void failing(String body, int a, int b, int c) {
        CaseTables bench = of(body);
        Check.noState(body + " of " + a + " " + b + " " + c, () -> bench.call(0, a, b, c));
    }

    private static void changed(long due, String body, int place, int a, int b, int c) {
        CaseTables bench = of(body);
        Check.same(body + " changed at " + place, due, () -> bench.callChanged(0, place, a, b, c));
    }

    private static void failingChanged(String body, int place, int a, int b, int c) {
        CaseTables bench = of(body);
        Check.noState(body + " changed at " + place, () -> bench.callChanged(0, place, a, b, c));
    }

    // ---- how it is reckoned

    private static void wrapsAround() {
        Doc.says("Terms", "All is reckoned in 64-bit integers, which wrap around");
        value(2147483648L, "a + 1", MOST, 0, 0);
        value(-2147483649L, "a - 1", LEAST, 0, 0);
        value(2147483648L, "-a", LEAST, 0, 0);
        // 2 to the 63rd is the least, one less the most
        value(Long.MIN_VALUE, "a * b * 2", LEAST, LEAST, 0);
        value(Long.MAX_VALUE, "a * b * 2 - 1", LEAST, LEAST, 0);
        value(Long.MIN_VALUE, "a * b * 2 - 1 + 1", LEAST, LEAST, 0);
        value(Long.MIN_VALUE, "-(a * b * 2)", LEAST, LEAST, 0);
        value(Long.MIN_VALUE, "a * b * 2 / -1", LEAST, LEAST, 0);
        value(0, "a * b * 2 % -1", LEAST, LEAST, 0);
        value(0, "a * b * 2 * 2", LEAST, LEAST, 0);
        value(1, "a * b * 2 < 0 and a * b * 2 - 1 > 0", LEAST, LEAST, 0);
        value(1, "a * b * 2 * 2 = 0", LEAST, LEAST, 0);
        value(BigInteger.valueOf(9999).pow(7).longValue(), "9999" + "*9999".repeat(6), 0, 0, 0);
        value(BigInteger.valueOf(MOST).pow(3).longValue(), "a * b * c", MOST, MOST, MOST);
        changed(Long.MIN_VALUE, "a * b * 2 - 1 - 1", 5, LEAST, LEAST, 0);
    }

    private static void cutTowardsZero() {
        Doc.says("Terms", "what is said to be divided is cut towards 0");
        int[][] due = {{7, 2, 3}, {-7, 2, -3}, {7, -2, -3}, {-7, -2, 3}, {1, 2, 0}, {-1, 2, 0}, {1, -2, 0}, {0, 5, 0},
            {LEAST, MOST, -1}};
        for (int[] row : due) {
            value(row[2], "a / b", row[0], row[1], 0);
        }
    }

    private static void yieldsOneOrZero() {
        says("a relation, and, or, not yield 1 or 0");
        value(1, "a and b", 5, -7, 0);
        value(0, "a and b", 5, 0, 0);
        value(0, "a and b", 0, 5, 0);
        value(1, "a or b", 5, 0, 0);
        value(1, "a or b", 0, -5, 0);
        value(0, "a or b", 0, 0, 0);
        value(1, "a and b and c", 5, 6, 7);
        value(0, "not a", 5, 0, 0);
        value(1, "not a", 0, 0, 0);
        value(1, "not not a", 5, 0, 0);
        String[] compares = {"=", "<>", "<", ">", "<=", ">="};
        int[][] due = {{0, 1, 0}, {1, 0, 1}, {1, 0, 0}, {0, 0, 1}, {1, 1, 0}, {0, 1, 1}};
        for (int i = 0; i < compares.length; i++) {
            for (int order = 0; order < 3; order++) {
                value(due[i][order], "a " + compares[i] + " b", 4 + order, 5, 0);
            }
        }
        // a number in a place of its own stays what it is
        value(5, "(a)", 5, 0, 0);
    }

    private static void whatIsTrue() {
        says("a number other than 0 is true");
        for (int number : new int[] {1, -1, 2, LEAST, MOST}) {
            value(1, "if a then 1 else 2", number, 0, 0);
            value(0, "not a", number, 0, 0);
            value(1, "a and 1", number, 0, 0);
            value(1, "a or 0", number, 0, 0);
        }
        value(2, "if a then 1 else 2", 0, 0, 0);
        // the lower 32 bits alone are 0
        value(1, "if a * 2 then 1 else 2", LEAST, 0, 0);
        value(1, "a * 2 and a * 2", LEAST, 0, 0);
    }

    private static void rightOfAnd() {
        says("the right side of and is reckoned only if the left one is true");
        value(0, "a and 1 / 0", 0, 0, 0);
        failing("a and 1 / 0", 1, 0, 0);
        failing("a and 1 / 0", -1, 0, 0);
        value(0, "a and b and 1 / 0", 1, 0, 0);
        value(0, "a and 1 / 0 and 1 / 0", 0, 0, 0);
        value(1, "a and 1 / 0 or b", 0, 1, 0);
        failing("1 / 0 and a", 0, 0, 0);
        changed(0, "a or 1 / 0", 0, 0, 0, 0);
        failingChanged("a or 1 / 0", 0, 1, 0, 0);
    }

    private static void rightOfOr() {
        says("that of or only if the left one is not");
        value(1, "a or 1 / 0", 1, 0, 0);
        value(1, "a or 1 / 0", -1, 0, 0);
        failing("a or 1 / 0", 0, 0, 0);
        value(1, "a or b or 1 / 0", 0, 1, 0);
        value(1, "a or 1 / 0 and 1 / 0", 2, 0, 0);
        failing("1 / 0 or a", 1, 0, 0);
        changed(1, "a and 1 / 0", 0, 1, 0, 0);
        failingChanged("a and 1 / 0", 0, 0, 0, 0);
    }

    private static void dividedByZero() {
        says("/ and % by 0 are an error");
        failing("a / b", 5, 0, 0);
        failing("a % b", 5, 0, 0);
        failing("a / b", 0, 0, 0);
        failing("a % b", 0, 0, 0);
        failing("a / (b - c)", 1, 4, 4);
        value(0, "a / b", 0, 1, 0);
        value(0, "a % b", 0, 1, 0);
        value(-5, "a / b", 5, -1, 0);
        // the lower 32 bits alone are 0
        value(0, "a / (b * 2)", 5, LEAST, 0);
        value(5, "a % (b * 2)", 5, LEAST, 0);
    }

    private static void signOfRemainder() {
        says("% has the sign of the left operand");
        value(1, "a % b", 7, 2, 0);
        value(-1, "a % b", -7, 2, 0);
        value(1, "a % b", 7, -2, 0);
        value(-1, "a % b", -7, -2, 0);
        value(0, "a % b", -8, 2, 0);
        value(0, "a % b", 8, -2, 0);
        value(-1, "a % b", -1, 5, 0);
    }

    private static void fromLeftToRight() {
        says("What is reckoned is reckoned from left to right");
        String f = "fun t(x in 0..1) = if x then 1 else 0; fun p(x in 0..1, y in 0..1) = x;"
                + "fun f(a in 0..1, b in 0..1) = ";
        // the ifs behind the first error are not come to
        int[][] due = {{1, 0}, {0, 1}, {1, 0}, {0, 1}, {1, 0}, {1, 0}, {0, 0}};
        String[] bodies = {
            "t(a) + 1 / 0 + t(b)", "t(b) + 1 / 0 + t(a)", "t(a) < 1 / 0 * t(b)", "t(b) * (1 / 0) / t(a)",
            "if t(a) = 1 / 0 then t(b) else t(b)", "p(t(a), 1 / 0) + t(b)", "p(1 / 0, t(a))"
        };
        for (int i = 0; i < bodies.length; i++) {
            CaseTables bench = Text.compiled(f + bodies[i] + "; table u of f: 1, 0: any;");
            int[] row = due[i];
            Check.same("then in " + bodies[i], row[0], () -> bench.taken(0, true));
            Check.same("else in " + bodies[i], row[1], () -> bench.taken(0, false));
        }
    }

    private static void errorEndsAtOnce() {
        says("an error ends it at once, and is an error of the function (nothing behind it is reckoned, and no branch "
                + "is taken there)");
        failing("1 / 0 * 0", 0, 0, 0);
        failing("0 * (1 / 0)", 0, 0, 0);
        failing("not (1 / 0)", 0, 0, 0);
        failing("1 / 0 = 1 / 0", 0, 0, 0);
        failing("if 1 / 0 then 1 else 1", 0, 0, 0);
        CaseTables called = Text.compiled("fun d(x in 0..1) = 1 / x; fun one(x in 0..1) = 1;"
                + "fun f(x in 0..1) = one(d(x)); fun g(x in 0..1) = d(x) * 0 + 1 or 1;");
        Check.noState("an error of an argument that does not matter", () -> called.call(2, 0, 0, 0));
        Check.noState("an error of what is called", () -> called.call(3, 0, 0, 0));
        CaseTables bench = Text.compiled("fun d(x in 0..1) = 1 / x + (if x then 1 else 2);"
                + "fun f(x in 0..1) = (if x then 1 else 2) + d(x) + (if x then 1 else 2) + (if 1 / x then 3 else 4);"
                + "table t of f: 0: any;");
        int[][] due = {{0, 0}, {0, 1}, {0, 0}, {0, 0}};
        for (int i = 0; i < due.length; i++) {
            int number = i;
            Check.same("then of if " + i, due[i][0], () -> bench.taken(number, true));
            Check.same("else of if " + i, due[i][1], () -> bench.taken(number, false));
        }
        CaseTables condition = Text.compiled("fun f(x in 0..1) = if 1 / x then 3 else 4; table t of f: 0: error;");
        Check.same("then behind a condition with an error", 0, () -> condition.taken(0, true));
        Check.same("else behind a condition with an error", 0, () -> condition.taken(0, false));
    }

    private static void rangesDoNotMatter() {
        says("The ranges of inputs do not matter to calls.");
        value(100, "a", 100, 0, 0);
        value(MOST, "b", 0, MOST, 0);
        value(LEAST, "c", 0, 0, LEAST);
        changed(101, "a + 0", 1, 100, 0, 0);
        CaseTables bench = Text.compiled("fun f(x in 0..1) = x * 2; fun g(x in 0..1) = f(x + 50);");
        Check.same("nor to calls in a function", 102L, () -> bench.call(1, 1, 0, 0));
    }

    // ---- ifs and places

    private static void ifsOverTheProgram() {
        says("Ifs are numbered over the whole program, from 0, in the order in which they stand.");
        CaseTables bench = Text.compiled("fun f(x in 0..9) = if x > 7 then if x > 8 then 1 else 2 else if x > 1 then 3 "
                + "else 4; fun none(x in 0..1) = x; table t of f: *: any;"
                + "fun g(x in 0..9) = if (if x > 4 then 0 else 1) then 5 else 6; table u of g: 0..6: any;");
        int[][] due = {{2, 8}, {1, 1}, {6, 2}, {5, 2}, {2, 5}};
        Check.same("ifs", due.length, () -> bench.count(2));
        for (int i = 0; i < due.length; i++) {
            int number = i;
            Check.same("then of if " + i, due[i][0], () -> bench.taken(number, true));
            Check.same("else of if " + i, due[i][1], () -> bench.taken(number, false));
        }
    }

    private static void placesFromZero() {
        says("Places of a function are numbered from 0, in the order in which they stand: each number, each compare, "
                + "each + - * / % between two operands, each and, each or, each if (at its word).");
        CaseTables bench = Text.compiled("fun f(a in 0..3, b in 0..3) = a;"
                + "fun g(a in 0..3, b in 0..3) = if -a < not 1 then f(a, 2) or b and 3 else - -a + 4 - b * 5 / 6 % 7;");
        // if < 1 2 or and 3 + 4 - * 5 / 6 % 7
        Check.same("places of g", 16, () -> bench.fun(1, 1));
        Check.same("no place in names, signs, not and brackets", 0, () -> bench.fun(0, 1));
        Check.noIndex("a place behind the last one", () -> bench.callChanged(1, 16, 0, 0, 0));
        int[] due = {22, -9, 26, 6, 24, 23, 20, 16, 19, -83, 15};
        for (int place = 0; place < due.length; place++) {
            changed(due[place], "7 + 3 * 5 - 31 / 2 % 7", place, 0, 0, 0);
        }
        // the if stands ahead of its parts, an operator between its sides
        String[] bodies = {"if 2 then 5 else 8", "5 = 6", "0 or 1", "0 and 1"};
        int[][] dues = {{8, 5, 6, 5}, {1, 1, 0}, {1, 0, 1}, {1, 1, 0}};
        for (int i = 0; i < bodies.length; i++) {
            for (int place = 0; place < dues[i].length; place++) {
                changed(dues[i][place], bodies[i], place, 0, 0, 0);
            }
        }
        // the most places that 50 tokens hold
        CaseTables most = of("0" + "+0".repeat(24));
        Check.same("most places", 49, () -> most.fun(0, 1));
        for (int i = 0; i < 49; i++) {
            int place = i;
            Check.same("changed at " + i + " of 49", 1 - i % 2, () -> most.callChanged(0, place, 0, 0, 0));
        }
    }

    private static void numberBecomesGreater() {
        says("a number becomes 1 greater");
        changed(1, "0", 0, 0, 0, 0);
        changed(10, "9", 0, 0, 0, 0);
        changed(10000, "9999", 0, 0, 0, 0);
        changed(-6, "-5", 0, 0, 0, 0);
        changed(1, "-0 + 2", 0, 0, 0, 0);
        failingChanged("1 / (a - 1)", 3, 2, 0, 0);
        changed(5, "5 / 0", 2, 0, 0, 0);
    }

    private static void operatorsBecomeEachOther() {
        says("= and <> become each other, so < and <=, > and >=, + and -, * and /, and and or");
        String[] operators = {"=", "<>", "<", "<=", ">", ">=", "+", "-", "*", "/", "and", "or"};
        int[][] sides = {{4, 5}, {5, 5}, {6, 5}, {0, 5}, {-7, 2}};
        for (int i = 0; i < operators.length; i++) {
            for (int[] side : sides) {
                CaseTables other = of("a " + operators[i ^ 1] + " b");
                long due = other.call(0, side[0], side[1], 0);
                changed(due, "a " + operators[i] + " b", 0, side[0], side[1], 0);
            }
        }
        // at the sides where they differ
        changed(0, "a = b", 0, 5, 5, 0);
        changed(1, "a < b", 0, 5, 5, 0);
        changed(0, "a >= b", 0, 5, 5, 0);
        failingChanged("a * b", 0, 8, 0, 0);
        changed(0, "a / b", 0, 8, 0, 0);
    }

    private static void remainderBecomesProduct() {
        says("% becomes *");
        changed(28, "a % b", 0, 7, 4, 0);
        changed(0, "a % b", 0, 7, 0, 0);
        changed(-14, "a % b", 0, -7, 2, 0);
    }

    private static void ifTakesTheOther() {
        says("an if takes its other branch");
        changed(6, "if a then 5 else 6", 0, 1, 0, 0);
        changed(5, "if a then 5 else 6", 0, 0, 0, 0);
        failingChanged("if a then 5 else 1 / 0", 0, 1, 0, 0);
        changed(5, "if a then 5 else 1 / 0", 0, 0, 0, 0);
        failingChanged("if 1 / 0 then 5 else 5", 0, 0, 0, 0);
        // only this one
        changed(2, "if a then if b then 1 else 2 else 3", 1, 1, 1, 0);
        changed(3, "if a then if b then 1 else 2 else 3", 1, 0, 1, 0);
    }

    private static void sidesStayAsRead() {
        says("What stands on both sides of it stays as it was read.");
        changed(2, "a + b * c", 1, 2, 3, 4);
        changed(2 * (3 + 4), "a / (b + c)", 0, 2, 3, 4);
        changed(20, "(a - b) * 4", 0, 2, 3, 0);
        changed(3, "a * b / c", 0, 20, 3, 2);
        changed(0, "a or b and c", 0, 1, 0, 0);
        changed(0, "a or b and c", 0, 1, 1, 0);
        changed(1, "a and b or c", 1, 1, 1, 1);
        changed(0, "a and b or c", 1, 1, 1, 0);
        changed(0, "a and b or c", 0, 0, 0, 0);
        changed(6, "a - b - c", 1, 5, 1, 2);
    }

    private static void changeInItselfAlone() {
        says("It holds for the place in the function itself, not for functions that it calls.");
        CaseTables bench = Text.compiled("fun f(a in 0..3) = a + 1; fun g(a in 0..3) = f(a) * 10 + f(2);");
        Check.same("places of g", 4, () -> bench.fun(1, 1));
        long[] due = {4 / 10 + 3, 4 * 11 + 3, 4 * 10 - 3, 4 * 10 + 4};
        for (int i = 0; i < due.length; i++) {
            int place = i;
            Check.same("g changed at " + i, due[i], () -> bench.callChanged(1, place, 3, 0, 0));
        }
        Check.same("behind it no change is left", 43L, () -> bench.call(1, 3, 0, 0));
    }

    // ---- promises 7 to 11

    private static void funWhat() {
        Doc.says("Promise 7", "0 the number of its inputs, 1 of its places, 2 of its tables, 3 of all rows of "
                + "inputs from its ranges, 4 of its pairs, 5 of its pairs that are not tried");
        CaseTables most = Text.compiled("fun f(a in -20..20, b in -20..20, c in -20..20) = -a" + "+1".repeat(24) + ";"
                + "fun g(a in 5..5) = a; fun h(a in 5..5, b in 0..0) = a; fun i(a in 5..5, b in 0..0, c in 1..1) = a;"
                + "table t of g: 5: any; table u of g: 5: any; table v of i: 5, 0, 1: any;");
        int[][] due = {
            {3, 48, 0, 68921, 5043, 5043}, {1, 0, 2, 1, 1, 0}, {2, 0, 0, 1, 1, 1}, {3, 0, 1, 1, 3, 0}
        };
        for (int fun = 0; fun < due.length; fun++) {
            for (int what = 0; what < 6; what++) {
                int number = fun;
                int asked = what;
                Check.same("fun(" + fun + ", " + what + ")", due[fun][what], () -> most.fun(number, asked));
            }
        }
    }

    private static void funThrows() {
        Doc.says("Promise 7", "Throws `IndexOutOfBoundsException` if there is no such function, or what is not 0 to 5");
        CaseTables bench = Text.compiled("fun f(a in 0..3) = a; fun g(a in 0..3) = a;");
        for (int fun : new int[] {-1, 2, 6, MOST, LEAST}) {
            Check.noIndex("fun(" + fun + ", 0)", () -> bench.fun(fun, 0));
        }
        for (int what : new int[] {-1, 6, MOST, LEAST}) {
            Check.noIndex("fun(1, " + what + ")", () -> bench.fun(1, what));
        }
        Check.same("fun(1, 5)", 4, () -> bench.fun(1, 5));
        CaseTables none = new CaseTables();
        Check.noIndex("fun(0, 0) without a program", () -> none.fun(0, 0));
    }

    private static void callInputs() {
        Doc.says("Promise 8", "(inputs that it does not have do not matter)");
        CaseTables bench = Text.compiled("fun f(a in 0..3) = a; fun g(a in 0..3, b in 0..3) = a - b;");
        for (int other : new int[] {0, 1, -1, MOST, LEAST}) {
            Check.same("f with " + other, 7L, () -> bench.call(0, 7, other, other));
            Check.same("g with " + other, 4L, () -> bench.call(1, 7, 3, other));
        }
    }

    private static void callThrowsNoFunction() {
        Doc.says("Promise 8", "Throws `IndexOutOfBoundsException` if there is no such function");
        CaseTables bench = Text.compiled("fun f(a in 0..3) = 1 / a; fun g(a in 0..3) = a;");
        for (int fun : new int[] {-1, 2, 6, MOST, LEAST}) {
            Check.noIndex("call(" + fun + ")", () -> bench.call(fun, 0, 0, 0));
        }
        Check.same("call(1)", 3L, () -> bench.call(1, 3, 0, 0));
        CaseTables none = new CaseTables();
        Check.noIndex("call(0) without a program", () -> none.call(0, 1, 1, 1));
        bench.compile();
        Check.noIndex("call(0) when the program is gone", () -> bench.call(0, 1, 1, 1));
    }

    private static void callThrowsError() {
        Doc.says("Promise 8", "Throws `IllegalStateException` if it has an error");
        CaseTables bench = Text.compiled("fun f(a in 0..3) = 1 / a; fun g(a in 0..3) = f(a) or 1;");
        Check.noState("call(0) with an error", () -> bench.call(0, 0, 0, 0));
        Check.noState("call(1) with an error of what it calls", () -> bench.call(1, 0, 0, 0));
        Check.same("call(0) behind an error", 1L, () -> bench.call(0, 1, 0, 0));
        Check.same("call(0) of 0 is no error", 0L, () -> bench.call(0, 2, 0, 0));
    }

    private static void changedThrowsNoPlace() {
        Doc.says("Promise 9", "Throws `IndexOutOfBoundsException` if there is no such function or place");
        CaseTables bench = Text.compiled("fun f(a in 0..3) = 1 / a; fun g(a in 0..3) = a; fun h(a in 0..3) = f(a);");
        for (int fun : new int[] {-1, 3, 6, MOST, LEAST}) {
            Check.noIndex("callChanged(" + fun + ", 0)", () -> bench.callChanged(fun, 0, 1, 0, 0));
        }
        for (int place : new int[] {-1, 2, 49, 50, 64, MOST, LEAST}) {
            Check.noIndex("callChanged(0, " + place + ")", () -> bench.callChanged(0, place, 1, 0, 0));
        }
        Check.same("callChanged(0, 1)", 3L, () -> bench.callChanged(0, 1, 3, 0, 0));
        Check.noIndex("a function without places", () -> bench.callChanged(1, 0, 1, 0, 0));
        Check.noIndex("the places of what it calls are none of it", () -> bench.callChanged(2, 0, 1, 0, 0));
    }

    private static void changedThrowsError() {
        Doc.says("Promise 9", "Throws `IllegalStateException` if it has an error then");
        CaseTables bench = Text.compiled("fun f(a in 0..3) = 6 / (a - 1);");
        Check.noState("an error with and without the change", () -> bench.callChanged(0, 0, 1, 0, 0));
        Check.noState("an error with the change alone", () -> bench.callChanged(0, 3, 2, 0, 0));
        Check.same("an error without the change alone", 0L, () -> bench.callChanged(0, 1, 1, 0, 0));
        Check.same("another one", -6L, () -> bench.callChanged(0, 3, 1, 0, 0));
    }

    private static void inputOfThrows() {
        Doc.says("Promise 10", "Throws `IndexOutOfBoundsException` if there is no such function, row or input");
        CaseTables bench = Text.compiled("fun f(a in -1..1, b in 5..6, c in 0..3) = a; fun g(a in -20..20) = a;"
                + "fun h(a in 3..4, b in -2..0) = a;");
        int[] rows = {24, 41, 6};
        int[] inputs = {3, 1, 2};
        for (int i = 0; i < rows.length; i++) {
            int fun = i;
            for (int row : new int[] {-1, rows[i], rows[i] + 1, MOST, LEAST}) {
                Check.noIndex("inputOf(" + i + ", " + row + ", 0)", () -> bench.inputOf(fun, row, 0));
            }
            for (int input : new int[] {-1, inputs[i], 3, MOST, LEAST}) {
                Check.noIndex("inputOf(" + i + ", 0, " + input + ")", () -> bench.inputOf(fun, 0, input));
            }
        }
        for (int fun : new int[] {-1, 3, 6, MOST, LEAST}) {
            Check.noIndex("inputOf(" + fun + ", 0, 0)", () -> bench.inputOf(fun, 0, 0));
        }
    }

    private static void inputOfOrder() {
        Doc.says("Promise 10", "the number of a row of inputs from its ranges, from 0, in the order told above");
        CaseTables bench = Text.compiled("fun f(a in -1..1, b in 5..6, c in 0..3) = a;"
                + "fun g(a in -20..20, b in -20..20, c in -20..20) = a;");
        int[][] due = {
            {0, -1, 5, 0}, {1, -1, 5, 1}, {3, -1, 5, 3}, {4, -1, 6, 0}, {7, -1, 6, 3}, {8, 0, 5, 0}, {23, 1, 6, 3}
        };
        for (int[] row : due) {
            for (int input = 0; input < 3; input++) {
                int asked = input;
                Check.same("inputOf(0, " + row[0] + ", " + input + ")", row[1 + input],
                        () -> bench.inputOf(0, row[0], asked));
            }
        }
        for (int i = 0; i < 3; i++) {
            int input = i;
            Check.same("the first of all for " + i, -20, () -> bench.inputOf(1, 0, input));
            Check.same("the last of all for " + i, 20, () -> bench.inputOf(1, 68920, input));
        }
    }

    private static void proposeAllTried() {
        Doc.says("Promise 11", "-1 if all pairs are tried.");
        CaseTables bench = Text.compiled("fun f(a in 0..1) = a; fun g(a in 0..1, b in 0..1, c in 0..1) = a;"
                + "table t of f: *: any; table u of g: 0, 0, 0: any | 0, 1, 1: any | 1, 0, 1: any;");
        Check.same("all tried", -1, () -> bench.propose(0));
        Check.same("nearly all tried", 6, () -> bench.propose(1));
        Check.same("grow", 4, () -> bench.grow(1));
        Check.same("then all tried", -1, () -> bench.propose(1));
        CaseTables none = Text.compiled("fun f(a in 5..5) = a;");
        Check.same("no table: none tried", 0, () -> none.propose(0));
        CaseTables last = Text.compiled("fun f(a in -20..20) = a; table t of f: -20..19: any;");
        Check.same("only the last one is not tried", 40, () -> last.propose(0));
    }

    private static void proposeThrows() {
        Doc.says("Promise 11", "Throws `IndexOutOfBoundsException` if there is no such function");
        CaseTables bench = Text.compiled("fun f(a in 0..3) = a; fun g(a in 0..3) = a;");
        for (int fun : new int[] {-1, 2, 6, MOST, LEAST}) {
            Check.noIndex("propose(" + fun + ")", () -> bench.propose(fun));
        }
        Check.same("propose(1)", 0, () -> bench.propose(1));
        CaseTables none = new CaseTables();
        Check.noIndex("propose(0) without a program", () -> none.propose(0));
    }
}
