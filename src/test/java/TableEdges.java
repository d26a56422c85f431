import java.math.BigInteger;
import java.util.ArrayList;
import java.util.List;

/** The boundaries of "3. Tables" and of the promises 12 to 20, each by the words of the document that name it. */
final class TableEdges {
    private static final int MOST = Integer.MAX_VALUE;
    private static final int LEAST = Integer.MIN_VALUE;
    private static final String MAX = "fun max(a in 0..3, b in 0..3) = if a > b then a else b;";

    private TableEdges() {
    }

    static void run() {
        Doc.each(
            TableEdges::starIsAll, TableEdges::ascendingOrder, TableEdges::casesFromZero, TableEdges::holdsWithAny,
            TableEdges::holdsWithError, TableEdges::holdsOtherwise, TableEdges::pairOfTwoInputs,
            TableEdges::pairOfOneInput, TableEdges::triedPairs, TableEdges::mostPairs, TableEdges::firstOfSeveral,
            TableEdges::tableWhat, TableEdges::tableAllHold, TableEdges::tableThrows, TableEdges::caseOfThrows,
            TableEdges::holdsThrows, TableEdges::takenBranches, TableEdges::takenThrows, TableEdges::findsThrows,
            TableEdges::findsWhatHeld, TableEdges::scoreWithoutPlaces, TableEdges::scoreIsPart,
            TableEdges::scoreThrows, TableEdges::growAddsRow, TableEdges::growReturns, TableEdges::growThrowsNoTable,
            TableEdges::growThrowsFull, TableEdges::shortenFromLast, TableEdges::shortenKeepsFirst,
            TableEdges::shortenReturns, TableEdges::shortenThrows, TableEdges::digestOfNothing,
            TableEdges::digestWraps);
    }

    private static void says(String words) {
        Doc.says("3. Tables", words);
    }

    private static void caseIs(CaseTables bench, int table, int index, int... due) {
        for (int i = 0; i < due.length; i++) {
            int input = i;
            Check.same("case " + index + " of table " + table + ", input " + i, due[i],
                    () -> bench.caseOf(table, index, input));
        }
    }

    private static void holding(CaseTables bench, int table, String due) {
        for (int i = 0; i < due.length(); i++) {
            int index = i;
            Check.same("case " + i + " of table " + table + " holds", due.charAt(i) == '1',
                    () -> bench.holds(table, index));
        }
    }

    private static void takes(CaseTables bench, int number, int thens, int elses) {
        Check.same("then of if " + number, thens, () -> bench.taken(number, true));
        Check.same("else of if " + number, elses, () -> bench.taken(number, false));
    }

    /** A bench that had more tables before, all of them with cases. */
    private static CaseTables behindOthers(String program) {
        CaseTables bench = new CaseTables();
        StringBuilder tables = new StringBuilder("fun f(a in 0..9) = a;");
        for (int i = 0; i < 7; i++) {
            tables.append("table t").append(i).append(" of f: *: any;");
        }
        Text.feed(bench, tables.toString());
        Check.same("seven tables", 4, bench::compile);
        Text.feed(bench, program);
        Check.same("compile of " + program, 0, bench::compile);
        return bench;
    }

    // ---- cases

    private static void starIsAll() {
        says("(* : all of the range of the input)");
        CaseTables bench = Text.compiled("fun f(a in -20..20, b in 5..5) = a; table t of f: *, *: any | 3, *: any;");
        Check.same("cases", 42, () -> bench.table(0, 2));
        caseIs(bench, 0, 0, -20, 5);
        caseIs(bench, 0, 40, 20, 5);
        caseIs(bench, 0, 41, 3, 5);
    }

    private static void ascendingOrder() {
        says("in ascending order of the first one, then of the second one, and so on");
        CaseTables bench = Text.compiled("fun f(a in -2..2, b in -2..2, c in -2..2) = a;"
                + "table t of f: -1..0, -2..-1, 0..2: any;");
        int index = 0;
        for (int a = -1; a <= 0; a++) {
            for (int b = -2; b <= -1; b++) {
                for (int c = 0; c <= 2; c++) {
                    caseIs(bench, 0, index, a, b, c);
                    index++;
                }
            }
        }
    }

    private static void casesFromZero() {
        says("the cases of a table are those of its rows, one after the other, numbered from 0");
        CaseTables bench = Text.compiled("fun f(a in 0..9) = a; table t of f: 9: any | 3..4: any | 0: any | 3: any;");
        int[] due = {9, 3, 4, 0, 3};
        for (int index = 0; index < due.length; index++) {
            caseIs(bench, 0, index, due[index]);
        }
        Check.same("cases that are told twice count twice", 5, () -> bench.table(0, 2));
        Check.noIndex("behind the last one", () -> bench.caseOf(0, 5, 0));
    }

    private static void holdsWithAny() {
        says("A case holds: with any, if the function has no error");
        CaseTables bench = Text.compiled("fun f(a in -1..1) = 1 / a; table t of f: *: any;");
        holding(bench, 0, "101");
    }

    private static void holdsWithError() {
        says("with error, if it has one");
        CaseTables bench = Text.compiled("fun f(a in -1..1) = 1 / a; table t of f: *: error;");
        holding(bench, 0, "010");
    }

    private static void holdsOtherwise() {
        says("otherwise if it has none, and its value compares so with the number");
        String[] results = {"= 2", "<> 2", "< 2", "> 2", "<= 2", ">= 2"};
        String[] due = {"0100", "1010", "1000", "0010", "1100", "0110"};
        for (int i = 0; i < results.length; i++) {
            holding(Text.compiled("fun f(x in 1..4) = if x < 4 then x else 1 / 0;"
                    + " table t of f: *: " + results[i] + ";"),
                    0, due[i]);
        }
        // an error is not the value 0, and 2 to the 32nd and 5 is not 5
        CaseTables bench = Text.compiled("fun f(x in 0..3) = 1 / x; fun g(x in 0..0) = 4096 * 4096 * 256 + 5;"
                + "table t of f: 0: = 0 | 0: <> 0 | 0: <= 0; table u of g: 0: = 5 | 0: > 9999 | 0: <> 5;"
                + "fun h(x in 0..0) = -9999; table v of h: 0: = -9999 | 0: >= -9998 | 0: < -9998;");
        holding(bench, 0, "000");
        holding(bench, 1, "011");
        holding(bench, 2, "101");
    }

    // ---- pairs and proposed cases

    private static void pairOfTwoInputs() {
        says("A pair is two inputs of a function, with a value out of the range for each");
        CaseTables bench = Text.compiled("fun f(a in 0..1, b in -1..1) = a;"
                + " fun g(a in 0..1, b in -1..1, c in 4..8) = a;"
                + "fun h(a in 0..0, b in 0..0) = a; fun i(a in -20..20, b in -20..20) = a;");
        int[] due = {6, 6 + 10 + 15, 1, 1681};
        for (int i = 0; i < due.length; i++) {
            int fun = i;
            Check.same("pairs of " + i, due[i], () -> bench.fun(fun, 4));
            Check.same("none of them tried of " + i, due[i], () -> bench.fun(fun, 5));
        }
    }

    private static void pairOfOneInput() {
        says("for a function with one input it is a value of this one");
        CaseTables bench = Text.compiled("fun f(a in -20..20) = a; fun g(a in 7..7) = a;"
                + " table t of f: -20: any | 20: any;");
        Check.same("pairs", 41, () -> bench.fun(0, 4));
        Check.same("pairs that are not tried", 39, () -> bench.fun(0, 5));
        Check.same("one value", 1, () -> bench.fun(1, 4));
        Check.same("the first that is not tried", 1, () -> bench.propose(0));
    }

    private static void triedPairs() {
        says("A pair is tried, if a case of a table of the function has both values.");
        // a 0 with b 0, and a 1 with b 1: not a 0 with b 1
        CaseTables bench = Text.compiled("fun f(a in 0..1, b in 0..1) = a; fun g(a in 0..1, b in 0..1) = f(0, 1);"
                + "table t of f: 0, 0: error | 1, 1: = 7; table u of g: 0, 1: any;");
        Check.same("pairs that are not tried", 2, () -> bench.fun(0, 5));
        Check.same("the first of them", 1, () -> bench.propose(0));
        Check.same("of the other function", 3, () -> bench.fun(1, 5));
        // in several tables, and twice
        CaseTables tables = Text.compiled("fun f(a in 0..1, b in 0..1) = a; table t of f: 0, *: any;"
                + "table u of f: *, 0: any | 0, 0: any;");
        Check.same("of all tables", 1, () -> tables.fun(0, 5));
        Check.same("the one left", 3, () -> tables.propose(0));
        // at the ends of the widest ranges
        CaseTables wide = Text.compiled("fun f(a in -20..20, b in -20..20, c in -20..20) = a;"
                + "table t of f: -20, 20, -20: any | 20, *, 20: any;");
        Check.same("of the widest", 5043 - 3 - 41 - 41 - 1, () -> wide.fun(0, 5));
    }

    private static void mostPairs() {
        says("the one that has the most pairs that are not tried");
        CaseTables three = Text.compiled("fun f(a in 0..1, b in 0..1, c in 0..1) = a; table t of f: 0, 0, 0: any;");
        Check.same("three ahead of two", 3, () -> three.propose(0));
        CaseTables two = Text.compiled("fun f(a in 0..1, b in 0..1, c in 0..2) = a;"
                + "table t of f: *, *, 0: any | 0, 0, 1: any;");
        Check.same("two ahead of one", 2, () -> two.propose(0));
        CaseTables last = Text.compiled("fun f(a in 0..1, b in 0..1, c in 0..1) = a;"
                + "table t of f: 0, 0, *: any | 0, 1, 0: any | 1, 0, 0: any;");
        // left are a 1 with b 1 and c 1, and b 1 with c 1
        Check.same("the last row has three", 7, () -> last.propose(0));
    }

    private static void firstOfSeveral() {
        says("of several the first one in the order told above");
        CaseTables none = Text.compiled("fun f(a in -1..1, b in -1..1, c in -1..1) = a;"
                + " fun g(a in -1..1, b in 4..5) = a;"
                + "table t of g: -1, 4: any;");
        Check.same("the first of all", 0, () -> none.propose(0));
        Check.same("the next one", 1, () -> none.propose(1));
        CaseTables one = Text.compiled("fun f(a in 0..1, b in 0..1, c in 0..1) = a;"
                + "table t of f: *, *, 0: any | 0, *, 1: any;");
        Check.same("one pair in two rows of inputs", 5, () -> one.propose(0));
    }

    // ---- promises 12 to 17

    private static void tableWhat() {
        Doc.says("Promise 12", "0 its function, 1 the number of its rows, 2 of its cases, 3 of its cases that hold");
        CaseTables bench = Text.compiled("fun e(a in 0..0) = a; fun f(a in -20..20, b in 0..20) = a;"
                + "table t of f: 0, 0: any" + " | 0, 0: any".repeat(10) + " | *, 0: any;"
                + "table u of f: 1..10, 1..10: > 0; table v of e: 0: = 0; table w of f: 1..10, 1..10: < 0;");
        int[][] due = {{1, 12, 52, 52}, {1, 1, 100, 100}, {0, 1, 1, 1}, {1, 1, 100, 0}};
        for (int table = 0; table < due.length; table++) {
            for (int what = 0; what < 4; what++) {
                int number = table;
                int asked = what;
                Check.same("table(" + table + ", " + what + ")", due[table][what], () -> bench.table(number, asked));
            }
        }
    }

    private static void tableAllHold() {
        Doc.says("Promise 12", "4 the first case that does not hold, -1 if all do");
        CaseTables bench = Text.compiled("fun f(a in 0..20, b in 0..20) = a * 21 + b;"
                + "table t of f: 0..9, 0..9: any; table u of f: 0..9, 0..9: < 198; table v of f: 0, *: > 0;"
                + "table w of f: 0, 0: = 0 | 0, 1: error | 0, 2: = 2 | 0, 3: < 0;");
        int[] due = {-1, 99, 0, 1};
        for (int table = 0; table < due.length; table++) {
            int number = table;
            Check.same("table(" + table + ", 4)", due[table], () -> bench.table(number, 4));
        }
    }

    private static void tableThrows() {
        Doc.says("Promise 12", "Throws `IndexOutOfBoundsException` if there is no such table, or what is not 0 to 4");
        CaseTables bench = Text.compiled(MAX + "table t of max: 0, 0: any; table u of max: 0, 0: any;");
        for (int table : new int[] {-1, 2, 6, MOST, LEAST}) {
            Check.noIndex("table(" + table + ", 0)", () -> bench.table(table, 0));
        }
        for (int what : new int[] {-1, 5, MOST, LEAST}) {
            Check.noIndex("table(1, " + what + ")", () -> bench.table(1, what));
        }
        CaseTables none = Text.compiled(MAX);
        Check.noIndex("a program without tables", () -> none.table(0, 0));
    }

    private static void caseOfThrows() {
        Doc.says("Promise 13", "Throws `IndexOutOfBoundsException` if there is no such table, case or input");
        CaseTables bench = Text.compiled("fun f(a in 0..9, b in 0..9, c in 0..9) = a; fun g(a in 0..9) = a;"
                + "table t of f: 0..9, *, 0: any; table u of g: 3: any; table v of g: 3: any | 4: any;");
        int[] cases = {100, 1, 2};
        int[] inputs = {3, 1, 1};
        for (int i = 0; i < cases.length; i++) {
            int table = i;
            for (int index : new int[] {-1, cases[i], MOST, LEAST}) {
                Check.noIndex("caseOf(" + i + ", " + index + ", 0)", () -> bench.caseOf(table, index, 0));
            }
            for (int input : new int[] {-1, inputs[i], MOST, LEAST}) {
                Check.noIndex("caseOf(" + i + ", 0, " + input + ")", () -> bench.caseOf(table, 0, input));
            }
        }
        for (int table : new int[] {-1, 3, 6, MOST, LEAST}) {
            Check.noIndex("caseOf(" + table + ", 0, 0)", () -> bench.caseOf(table, 0, 0));
        }
        CaseTables late = behindOthers(MAX + "table t of max: 0, 0: any;");
        for (int table : new int[] {-1, 1, 5, 6}) {
            Check.noIndex("caseOf(" + table + ", 0, 0) behind other tables", () -> late.caseOf(table, 0, 0));
        }
        caseIs(bench, 0, 99, 9, 9, 0);
        caseIs(bench, 2, 1, 4);
        bench.shorten(2);
        Check.noIndex("a case that is dropped", () -> bench.caseOf(2, 1, 0));
    }

    private static void holdsThrows() {
        Doc.says("Promise 14", "Throws `IndexOutOfBoundsException` if there is no such table or case");
        CaseTables bench = Text.compiled("fun f(a in 0..9, b in 0..9) = a; table t of f: *, *: any;"
                + " table u of f: 1, 1: any;");
        for (int index : new int[] {-1, 100, MOST, LEAST}) {
            Check.noIndex("holds(0, " + index + ")", () -> bench.holds(0, index));
        }
        Check.same("holds(0, 99)", true, () -> bench.holds(0, 99));
        Check.noIndex("holds(1, 1)", () -> bench.holds(1, 1));
        for (int table : new int[] {-1, 2, 6, MOST, LEAST}) {
            Check.noIndex("holds(" + table + ", 0)", () -> bench.holds(table, 0));
        }
        CaseTables late = behindOthers(MAX + "table t of max: 0, 0: any;");
        for (int table : new int[] {-1, 1, 5, 6}) {
            Check.noIndex("holds(" + table + ", 0) behind other tables", () -> late.holds(table, 0));
        }
    }

    private static void takenBranches() {
        Doc.says("Promise 15", "how often this branch is taken, when all cases of all tables are run once (also within "
                + "calls).");
        CaseTables none = Text.compiled(MAX);
        takes(none, 0, 0, 0);
        CaseTables bench = Text.compiled(MAX + "fun two(a in 0..3, b in 0..3) = max(a, b) + max(b, a);"
                + "table t of two: 1, *: any; table u of max: 2, 1: = 0 | 2, 1: error; table v of two: 3, 0: any;");
        // t: 1 with 0 to 3 and the other way round; u: twice; v: 3 0 and 0 3
        takes(bench, 0, 1 + 2 + 2 + 1, 3 + 2 + 1);
        takes(bench, 0, 6, 6);
        // no other call counts
        bench.call(0, 3, 0, 0);
        bench.callChanged(0, 0, 3, 0, 0);
        bench.finds(0, 0);
        bench.score(1);
        bench.table(2, 3);
        bench.digest();
        takes(bench, 0, 6, 6);
        bench.grow(1);
        takes(bench, 0, 6, 7);
        CaseTables most = Text.compiled("fun f(a in 0..9, b in 0..9) = if 1 then if 0 then 1 else 2 else 3;"
                + "fun g(a in 0..9, b in 0..9) = f(1,1)+f(1,1)+f(1,1)+f(1,1)+f(1,1); table t of g: *, *: any;");
        takes(most, 0, 500, 0);
        takes(most, 1, 0, 500);
    }

    private static void takenThrows() {
        Doc.says("Promise 15", "Throws `IndexOutOfBoundsException` if there is no such if");
        CaseTables bench = Text.compiled(MAX + "fun g(a in 0..3) = if a then 1 else 2; table t of g: *: any;");
        for (int number : new int[] {-1, 2, 54, MOST, LEAST}) {
            Check.noIndex("taken(" + number + ", true)", () -> bench.taken(number, true));
            Check.noIndex("taken(" + number + ", false)", () -> bench.taken(number, false));
        }
        takes(bench, 1, 3, 1);
        CaseTables none = Text.compiled("fun g(a in 0..3) = a;");
        Check.noIndex("a program without ifs", () -> none.taken(0, true));
    }

    private static void findsThrows() {
        Doc.says("Promise 16", "Throws `IndexOutOfBoundsException` if there is no such table or place");
        CaseTables bench = Text.compiled(MAX + "fun id(a in 0..1) = a; fun call(a in 0..1) = max(a, a);"
                + "table t of max: 1, 2: = 2; table u of id: 0: any; table v of call: 0: = 0;");
        for (int place : new int[] {-1, 2, 32, 64, MOST, LEAST}) {
            Check.noIndex("finds(0, " + place + ")", () -> bench.finds(0, place));
        }
        Check.noIndex("a function without places", () -> bench.finds(1, 0));
        Check.noIndex("places of what it calls", () -> bench.finds(2, 0));
        for (int table : new int[] {-1, 3, 6, MOST, LEAST}) {
            Check.noIndex("finds(" + table + ", 0)", () -> bench.finds(table, 0));
        }
        Check.same("finds(0, 0)", true, () -> bench.finds(0, 0));
    }

    private static void findsWhatHeld() {
        Doc.says("Promise 16", "whether with the change at this place a case of the table does not hold that "
                + "holds without it.");
        CaseTables bench = Text.compiled("fun f(x in 0..3) = x + 1; table t of f: 0: = 2;"
                + " table u of f: 0: = 2 | 3: < 5;"
                + "table v of f: 0: <> 1; table w of f: 0: any | 1: any;");
        boolean[][] due = {{false, false}, {false, true}, {false, false}, {false, false}};
        for (int table = 0; table < due.length; table++) {
            for (int i = 0; i < 2; i++) {
                int number = table;
                int place = i;
                Check.same("finds(" + table + ", " + i + ")", due[table][i], () -> bench.finds(number, place));
            }
        }
        // any and error find what makes an error, or takes it away
        CaseTables errors = Text.compiled("fun f(x in 0..2) = 6 / (x - 1); table t of f: 2: any;"
                + " table u of f: 1: error;");
        String[] errorsDue = {"0001", "0111"};
        for (int table = 0; table < 2; table++) {
            for (int i = 0; i < 4; i++) {
                int number = table;
                int place = i;
                Check.same("finds(" + table + ", " + i + ") of errors", errorsDue[table].charAt(i) == '1',
                        () -> errors.finds(number, place));
            }
        }
        CaseTables most = Text.compiled("fun f(x in 0..2) = 0" + "+0".repeat(24) + "; table t of f: 0: = 0;");
        for (int i = 0; i < 49; i++) {
            int place = i;
            Check.same("place " + i + " of 49", i % 2 == 0, () -> most.finds(0, place));
        }
    }

    private static void scoreWithoutPlaces() {
        Doc.says("Promise 17", "1 if it has no places.");
        CaseTables bench = Text.compiled(MAX + "fun id(a in 0..1) = a; fun call(a in 0..1) = -max(a, not a);"
                + "table t of id: 0: any; table u of call: 0: error;");
        Check.same("a function of names alone", 1.0, () -> bench.score(0));
        Check.same("places of what it calls are none of it", 1.0, () -> bench.score(1));
    }

    private static void scoreIsPart() {
        Doc.says("Promise 17", "the part of the places of its function whose change is found by the table");
        CaseTables bench = Text.compiled("fun f(a in 0..3, b in 0..1) = (not a) + 7 * b; fun g(a in 0..3) = a + 1;"
                + "table t of f: 0, 1: = 8; table u of f: 0, 1: any; table v of g: *: > 0; table w of g: 1: = 2;"
                + "fun h(a in 0..3) = 0" + "+0".repeat(24) + "; table x of h: 0: = 0;");
        double[] due = {2.0 / 3, 0, 0.5, 1, 25.0 / 49};
        for (int i = 0; i < due.length; i++) {
            int table = i;
            Check.same("score(" + i + ")", due[i], () -> bench.score(table));
        }
    }

    private static void scoreThrows() {
        Doc.says("Promise 17", "Throws `IndexOutOfBoundsException` if there is no such table");
        CaseTables bench = Text.compiled(MAX + "table t of max: 0, 0: any;");
        for (int table : new int[] {-1, 1, 6, MOST, LEAST}) {
            Check.noIndex("score(" + table + ")", () -> bench.score(table));
        }
        Check.same("score(0)", 0.0, () -> bench.score(0));
    }

    // ---- promises 18 to 20

    private static void growAddsRow() {
        Doc.says("Promise 18", "as a row of its own, with what the function yields now: = and its value, or error.");
        CaseTables bench = Text.compiled("fun f(a in 0..2) = 2 / (a - 1); table t of f: 0: = -2;");
        Check.same("the first row does not find the /", false, () -> bench.finds(0, 1));
        bench.grow(0);
        caseIs(bench, 0, 1, 1);
        Check.same("an error holds", true, () -> bench.holds(0, 1));
        Check.same("it is error and not any", true, () -> bench.finds(0, 1));
        bench.grow(0);
        caseIs(bench, 0, 2, 2);
        Check.same("a value holds", true, () -> bench.holds(0, 2));
        Check.same("rows", 3, () -> bench.table(0, 1));
        // a value that no number of the language could tell: 2 to the 63rd
        CaseTables wide = Text.compiled("fun f(a in -20..20) = 4096 * 4096 * 4096 * 4096 * 4096 * 8;"
                + " fun g(a in 0..1) = -f(a) - a; table t of f: 0: any; table u of g: 1: any;");
        wide.grow(0);
        wide.grow(1);
        Check.same("the least value holds", -1, () -> wide.table(0, 4));
        Check.same("the least value holds there too", -1, () -> wide.table(1, 4));
        Check.same("it is = : a 4096 that is 4097 is found", true, () -> wide.finds(0, 0));
        // the proposed case is that of all tables of the function
        CaseTables two = Text.compiled("fun f(a in 0..2) = a; table t of f: 1: any; table u of f: 0: any;");
        two.grow(0);
        caseIs(two, 0, 1, 2);
    }

    private static void growReturns() {
        Doc.says("Promise 18", "Returns the number of its cases then.");
        CaseTables bench = Text.compiled("fun f(a in 0..20) = a; table t of f: 0..9: any | 3..4: any;"
                + " table u of f: 5: any;");
        for (int cases = 13; cases <= 22; cases++) {
            int due = cases;
            Check.same("grow to " + cases, due, () -> bench.grow(0));
        }
        Check.same("grow of another", 2, () -> bench.grow(1));
    }

    private static void growThrowsNoTable() {
        Doc.says("Promise 18", "Throws `IndexOutOfBoundsException` if there is no such table");
        CaseTables bench = Text.compiled(MAX + "table t of max: *, *: any;");
        for (int table : new int[] {-1, 1, 6, MOST, LEAST}) {
            Check.noIndex("grow(" + table + ")", () -> bench.grow(table));
        }
        CaseTables none = Text.compiled(MAX);
        Check.noIndex("a program without tables", () -> none.grow(0));
    }

    private static void growThrowsFull() {
        Doc.says("Promise 18", "Throws `IllegalStateException` if all pairs are tried, the table has 12 rows or "
                + "100 cases");
        CaseTables tried = Text.compiled("fun f(a in 0..1) = a; table t of f: 0: any; table u of f: 1: any;");
        Check.noState("all pairs are tried", () -> tried.grow(0));
        CaseTables rows = Text.compiled("fun f(a in -20..20) = a; table t of f: 0: any" + " | 0: any".repeat(10)
                + "; table u of f: 0: any;");
        Check.same("a 12th row", 12, () -> rows.grow(0));
        Check.noState("a 13th row", () -> rows.grow(0));
        Check.same("12 rows stay", 12, () -> rows.table(0, 1));
        Check.same("another table grows", 2, () -> rows.grow(1));
        CaseTables cases = Text.compiled("fun f(a in 0..20, b in 0..20) = a; table t of f: 0..8, 0..10: any;"
                + "table u of f: 0..9, 0..9: any; table v of f: 1, 1: any;");
        Check.same("a 100th case", 100, () -> cases.grow(0));
        Check.noState("a 101st case", () -> cases.grow(0));
        Check.noState("a 101st case in one row", () -> cases.grow(1));
        Check.same("100 cases stay", 100, () -> cases.table(0, 2));
        Check.same("another table grows on", 2, () -> cases.grow(2));
        CaseTables all = Text.compiled("fun f(a in 0..9) = a; table t of f: *: any" + " | *: any".repeat(8)
                + " | 0..7: any | 0: any | 0: any;");
        Check.same("cases of all", 100, () -> all.table(0, 2));
        Check.noState("all pairs are tried, 12 rows and 100 cases", () -> all.grow(0));
    }

    private static void shortenFromLast() {
        Doc.says("Promise 19", "from the last row on, one after the other, a row is dropped, if the table "
                + "without it finds as many changes as with it");
        CaseTables bench = Text.compiled(MAX + "table t of max: 0, 0: any | 2, 1: = 2 | 1, 2: = 2 | 3, *: any;");
        Check.same("one row finds the if", 1, () -> bench.shorten(0));
        caseIs(bench, 0, 0, 2, 1);
        // 0 finds the if and the 3, 1 the if and + and 1: both are needed, the others are not
        CaseTables two = Text.compiled("fun f(a in 0..3) = (if a then a + 1 else 3);"
                + "table t of f: 0: = 3 | 1: = 2 | 0: any | 0: = 3;");
        Check.same("both rows that are needed", 2, () -> two.shorten(0));
        caseIs(two, 0, 0, 0);
        caseIs(two, 0, 1, 1);
        Check.same("score stays", 1.0, () -> two.score(0));
        // the row in the middle, and one that does not hold
        CaseTables middle = Text.compiled("fun f(a in 0..3) = (if a then a + 1 else 3);"
                + "table t of f: 0: = 3 | 2: = 4 | 1: = 2;");
        Check.same("the middle goes", 2, () -> middle.shorten(0));
        caseIs(middle, 0, 1, 1);
    }

    private static void shortenKeepsFirst() {
        Doc.says("Promise 19", "the first row left is not dropped, if it is the only one.");
        CaseTables bench = Text.compiled("fun f(a in 0..3) = a + 1; fun id(a in 0..3) = a;"
                + "table t of f: 3: any | 2: any | 1: any; table u of f: 0: any; table v of id: 2: = 2 | 1: any;");
        Check.same("nothing is found", 1, () -> bench.shorten(0));
        caseIs(bench, 0, 0, 3);
        Check.same("a single row", 1, () -> bench.shorten(1));
        caseIs(bench, 1, 0, 0);
        Check.same("no places", 1, () -> bench.shorten(2));
        caseIs(bench, 2, 0, 2);
        // the first one goes, if it is not the only one
        CaseTables first = Text.compiled("fun f(a in 0..3) = a + 1; table t of f: 3: any | 2: = 3;");
        Check.same("the first goes", 1, () -> first.shorten(0));
        caseIs(first, 0, 0, 2);
    }

    private static void shortenReturns() {
        Doc.says("Promise 19", "Returns the number of its rows then.");
        CaseTables bench = Text.compiled("fun f(a in 0..9) = a; table t of f: *: any" + " | 0: any".repeat(11)
                + "; fun g(a in 0..3) = (if a then a + 1 else 3); table u of g: 0: = 3 | 1: = 2;");
        Check.same("of twelve", 1, () -> bench.shorten(0));
        Check.same("rows", 1, () -> bench.table(0, 1));
        Check.same("cases", 10, () -> bench.table(0, 2));
        Check.same("nothing to drop", 2, () -> bench.shorten(1));
        Check.same("again", 2, () -> bench.shorten(1));
    }

    private static void shortenThrows() {
        Doc.says("Promise 19", "Throws `IndexOutOfBoundsException` if there is no such table");
        CaseTables bench = Text.compiled(MAX + "table t of max: 0, 0: any | 0, 0: any;");
        for (int table : new int[] {-1, 1, 6, MOST, LEAST}) {
            Check.noIndex("shorten(" + table + ")", () -> bench.shorten(table));
        }
        Check.same("rows stay", 2, () -> bench.table(0, 1));
    }

    private static void digestOfNothing() {
        Doc.says("Promise 20", "A number d starts with 373");
        CaseTables bench = new CaseTables();
        long due = 373L * 31 * 31 * 31 * 31 * 31;
        Check.same("digest of nothing", due, bench::digest);
        bench.feed(0, 0, 0, 0, 0);
        Check.same("digest of a tape", due + 20, bench::digest);
    }

    private static void digestWraps() {
        Doc.says("Promise 20", "d becomes d * 31 + x, which wraps around as a 64-bit integer");
        CaseTables bench = Text.compiled("fun f(a in -20..20, b in -20..20) = if a < b then 1 else 2;"
                + "fun g(a in -1..0) = f(a, -a); table t of g: *: = 1; table u of f: -20..-11, -20..-11: any;");
        List<Integer> numbers = new ArrayList<>(List.of(2, 2, 1, 102, 0));
        numbers.addAll(List.of(2, 4, 1, 1681, 1681, 1581, 1, 0, 1, 2, 2, 0));
        // of g: -1 with 1 yields 1, and 0 with 0 does not
        numbers.addAll(List.of(1, 1, 2, 1, 1, -1, 0));
        numbers.addAll(List.of(0, 1, 100, 100, -1));
        for (int a = -20; a <= -11; a++) {
            for (int b = -20; b <= -11; b++) {
                numbers.addAll(List.of(a, b));
            }
        }
        numbers.addAll(List.of(45 + 1, 55 + 1));
        BigInteger sum = BigInteger.valueOf(373);
        for (int number : numbers) {
            sum = sum.multiply(BigInteger.valueOf(31)).add(BigInteger.valueOf(number));
        }
        long due = sum.longValue();
        Check.same("digest", due, bench::digest);
        // 373 times 31 eleven times is the first that is too great for 63 bits
        CaseTables below = Text.compiled("fun f(a in 0..0) = a;");
        BigInteger least = BigInteger.valueOf(373);
        for (int number : new int[] {1, 0, 0, 0, 0, 1, 0, 0, 1, 1, 1}) {
            least = least.multiply(BigInteger.valueOf(31)).add(BigInteger.valueOf(number));
        }
        long wrapped = least.longValue();
        Check.same("a digest below 0", true, () -> wrapped < 0);
        Check.same("that digest", wrapped, below::digest);
    }
}
