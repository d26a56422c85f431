/** Promises 12 to 20, and what the document says of tables. */
final class TableTests {
    private static final String MAX = "fun max(a in 0..3, b in 0..3) = if a > b then a else b;";

    private TableTests() {
    }

    static void run() {
        table();
        caseOf();
        results();
        holds();
        taken();
        takenWithinCalls();
        takenAheadOfErrors();
        takenIsOfTablesAlone();
        mostIfs();
        finds();
        findsOnlyWhatHeld();
        score();
        grow();
        growWithErrors();
        growLimits();
        shorten();
        shortenKeepsOne();
        digest();
    }

    private static void table() {
        CaseTables bench = Text.compiled(MAX + "fun neg(x in -2..2) = -x;"
                + "table t of neg: *: <= 1 | 0: = 0; table u of max: 0, *: >= 0; table v of neg: 1..2: > 0;");
        int[][] due = {{1, 2, 6, 5, 0}, {0, 1, 4, 4, -1}, {1, 1, 2, 0, 0}};
        for (int table = 0; table < due.length; table++) {
            for (int what = 0; what < 5; what++) {
                int number = table;
                int asked = what;
                Check.same("table " + table + " " + what, due[table][what], () -> bench.table(number, asked));
            }
        }
        Check.noIndex("table -1", () -> bench.table(-1, 0));
        Check.noIndex("table 3", () -> bench.table(3, 0));
        Check.noIndex("table 0 -1", () -> bench.table(0, -1));
        Check.noIndex("table 0 5", () -> bench.table(0, 5));
    }

    private static void caseOf() {
        CaseTables bench = Text.compiled("fun f(a in 0..2, b in -1..1, c in 4..5) = a; fun g(a in 0..9) = a;"
                + "table t of f: 1, 0, 4: any | 0..1, -1..0, *: any | 2, *, 5..5: any; table u of g: 7..8: any;");
        int[][] due = {
            {1, 0, 4},
            {0, -1, 4}, {0, -1, 5}, {0, 0, 4}, {0, 0, 5}, {1, -1, 4}, {1, -1, 5}, {1, 0, 4}, {1, 0, 5},
            {2, -1, 5}, {2, 0, 5}, {2, 1, 5}
        };
        for (int index = 0; index < due.length; index++) {
            for (int input = 0; input < 3; input++) {
                int row = index;
                int asked = input;
                Check.same("caseOf " + index + " " + input, due[index][input], () -> bench.caseOf(0, row, asked));
            }
        }
        Check.same("caseOf of the next table", 8, () -> bench.caseOf(1, 1, 0));
        Check.noIndex("case 12", () -> bench.caseOf(0, 12, 0));
        Check.noIndex("case -1", () -> bench.caseOf(0, -1, 0));
        Check.noIndex("input 3", () -> bench.caseOf(0, 0, 3));
        Check.noIndex("input -1", () -> bench.caseOf(0, 0, -1));
        Check.noIndex("input 1 of one", () -> bench.caseOf(1, 0, 1));
        Check.noIndex("case 2 of two", () -> bench.caseOf(1, 2, 0));
        Check.noIndex("table 2", () -> bench.caseOf(2, 0, 0));
        Check.noIndex("table -1", () -> bench.caseOf(-1, 0, 0));
    }

    private static void results() {
        String[] results = {"= 2", "<> 2", "< 2", "> 2", "<= 2", ">= 2", "any", "error", "= -2", "< 0", ">= -9999"};
        // for the values 1, 2, 3 and an error
        String[] due = {"0100", "1010", "1000", "0010", "1100", "0110", "1110", "0001", "0000", "0000", "1110"};
        for (int i = 0; i < results.length; i++) {
            CaseTables bench = Text.compiled("fun f(x in 1..4) = if x < 4 then x else 1 / 0;"
                    + "table t of f: *: " + results[i] + ";");
            for (int index = 0; index < 4; index++) {
                int asked = index;
                Check.same("holds " + results[i] + " " + index, due[i].charAt(index) == '1',
                        () -> bench.holds(0, asked));
            }
        }
    }

    private static void holds() {
        CaseTables bench = Text.compiled(MAX + "table t of max: 1, 2: = 2 | 3, *: < 3 | 0, 0: = 0;"
                + "table u of max: 0, 3: = 0;");
        boolean[] due = {true, false, false, false, false, true};
        for (int index = 0; index < due.length; index++) {
            int asked = index;
            Check.same("holds " + index, due[index], () -> bench.holds(0, asked));
        }
        Check.same("holds of the next table", false, () -> bench.holds(1, 0));
        Check.noIndex("holds 6", () -> bench.holds(0, 6));
        Check.noIndex("holds -1", () -> bench.holds(0, -1));
        Check.noIndex("holds of table 2", () -> bench.holds(2, 0));
        Check.noIndex("holds of table -1", () -> bench.holds(-1, 0));
        Check.noIndex("holds 1 of one", () -> bench.holds(1, 1));
    }

    private static void takes(CaseTables bench, int number, int thens, int elses) {
        Check.same("taken " + number, thens, () -> bench.taken(number, true));
        Check.same("taken else " + number, elses, () -> bench.taken(number, false));
    }

    private static void taken() {
        CaseTables bench = Text.compiled(MAX + "fun g(x in 0..9) = if x < 3 then if x then 1 else 2 else if x = 9 "
                + "then 3 else 4; table t of g: *: any | 0..1: any; table u of max: 3, *: any;"
                + "table v of g: 9: error;");
        takes(bench, 0, 3, 1);
        takes(bench, 1, 5, 8);
        takes(bench, 2, 3, 2);
        takes(bench, 3, 2, 6);
        takes(bench, 0, 3, 1);
        Check.noIndex("taken 4", () -> bench.taken(4, true));
        Check.noIndex("taken -1", () -> bench.taken(-1, false));
        bench.grow(1);
        takes(bench, 0, 3, 2);
        bench.shorten(0);
        Check.same("rows left", 1, () -> bench.table(0, 1));
        takes(bench, 1, 3, 8);
    }

    private static void takenWithinCalls() {
        CaseTables bench = Text.compiled(MAX + "fun mid(a in 0..3, b in 0..3) = max(a, b) + max(b, a) + (if a then "
                + "max(a, 2) else 0); table t of mid: 1, *: any;");
        // a is 1, b 0 to 3: max(1, b), max(b, 1) and max(1, 2)
        takes(bench, 0, 1 + 2, 3 + 2 + 4);
        takes(bench, 1, 4, 0);
    }

    private static void takenAheadOfErrors() {
        CaseTables bench = Text.compiled("fun f(x in 0..3) = (if x then 1 else 2) + (if 1 / x then 3 else 4) + (if x "
                + "then 5 / (x - 2) else 6) + (if 1 then 7 else 8); table t of f: *: any;");
        takes(bench, 0, 3, 1);
        takes(bench, 1, 1, 2);
        takes(bench, 2, 3, 0);
        takes(bench, 3, 2, 0);
        CaseTables skipped = Text.compiled("fun f(x in 0..3) = x and (if x = 1 then 1 else 2) or 0;"
                + "table t of f: *: any;");
        takes(skipped, 0, 1, 2);
    }

    private static void takenIsOfTablesAlone() {
        CaseTables bench = Text.compiled(MAX + "table t of max: 1, 0: = 1;");
        bench.call(0, 1, 0, 0);
        takes(bench, 0, 1, 0);
        bench.call(0, 1, 0, 0);
        bench.callChanged(0, 0, 1, 0, 0);
        bench.finds(0, 0);
        bench.score(0);
        bench.propose(0);
        takes(bench, 0, 1, 0);
        bench.digest();
        takes(bench, 0, 1, 0);
    }

    /** Nine ifs in each of six functions: more tokens than 50 would be needed for a tenth. */
    private static void mostIfs() {
        StringBuilder all = new StringBuilder();
        for (int fun = 0; fun < 6; fun++) {
            all.append("fun f").append(fun).append("(a in 0..1)=if a then if a then 1 else 2 else ");
            for (int i = 0; i < 7; i++) {
                all.append("if a then 1 else ");
            }
            all.append("3;table t").append(fun).append(" of f").append(fun).append(":*:any;");
        }
        CaseTables bench = Text.compiled(all.toString());
        Check.same("ifs", 54, () -> bench.count(2));
        for (int number = 0; number < 54; number += 9) {
            takes(bench, number, 1, 1);
            takes(bench, number + 1, 1, 0);
            for (int i = 2; i < 9; i++) {
                takes(bench, number + i, 0, 1);
            }
        }
    }

    private static void finds() {
        CaseTables bench = Text.compiled(MAX + "table t of max: 1, 2: = 2 | 3, 1: any; table u of max: 2, 2: = 2;"
                + "table v of max: 1, 2: <> 1 | 2, 1: > 1;");
        Check.same("the if", true, () -> bench.finds(0, 0));
        Check.same("the >", false, () -> bench.finds(0, 1));
        Check.same("the if with equal inputs", false, () -> bench.finds(1, 0));
        Check.same("the > with equal inputs", false, () -> bench.finds(1, 1));
        Check.same("the if with <>", true, () -> bench.finds(2, 0));
        Check.noIndex("place 2", () -> bench.finds(0, 2));
        Check.noIndex("place -1", () -> bench.finds(0, -1));
        Check.noIndex("table 3", () -> bench.finds(3, 0));
        Check.noIndex("table -1", () -> bench.finds(-1, 0));
        CaseTables errors = Text.compiled("fun f(x in 0..2) = 6 / (x - 1); fun g(x in 0..2) = f(x) * 2;"
                + "table t of f: 1: error; table u of f: 0: any; table v of f: 2: any; table w of g: 1: error;");
        // places: 6, /, -, 1; with the 1 made 2 the input 2 has an error
        boolean[][] due = {{false, true, true, true}, {false, false, false, false}, {false, false, false, true}};
        for (int table = 0; table < due.length; table++) {
            for (int place = 0; place < 4; place++) {
                int number = table;
                int asked = place;
                Check.same("finds " + table + " " + place, due[table][place], () -> errors.finds(number, asked));
            }
        }
        Check.same("no change within what is called", false, () -> errors.finds(3, 0));
        Check.noIndex("no place of what is called", () -> errors.finds(3, 2));
    }

    private static void findsOnlyWhatHeld() {
        CaseTables bench = Text.compiled("fun f(x in 0..3) = x + 1; table t of f: 0: = 2;"
                + "table u of f: 0: = 2 | 3: < 5;");
        Check.same("a case that did not hold", false, () -> bench.finds(0, 0));
        Check.same("nor with the number", false, () -> bench.finds(0, 1));
        Check.same("any case of the table", false, () -> bench.finds(1, 0));
        Check.same("and with the number", true, () -> bench.finds(1, 1));
        Check.same("score of those", 0.5, () -> bench.score(1));
    }

    private static void score() {
        CaseTables bench = Text.compiled(MAX + "fun id(a in 0..1) = a; fun three(a in 0..3) = a + 1;"
                + "table t of max: 1, 2: = 2; table u of id: *: any; table v of three: *: any;"
                + "table w of three: 1: = 2; fun six(a in 0..3) = a + 1 + 2; table x of six: 0: >= 3;");
        double[] due = {0.5, 1, 0, 1, 2.0 / 4};
        for (int table = 0; table < due.length; table++) {
            int asked = table;
            Check.same("score " + table, due[table], () -> bench.score(asked));
        }
        Check.noIndex("score -1", () -> bench.score(-1));
        Check.noIndex("score 5", () -> bench.score(5));
        // the + and the 7 are found, the * is not: 7 / 1 is 7 too
        CaseTables third = Text.compiled("fun f(a in 0..3, b in 0..1) = (not a) + 7 * b; table t of f: 0, 1: = 8;");
        Check.same("two of three places", 2.0 / 3, () -> third.score(0));
    }

    private static void grow() {
        CaseTables bench = Text.compiled(MAX + "table t of max: 1, 2: any; table u of max: 0, 0: any;");
        Check.same("the first not tried", 1, () -> bench.propose(0));
        Check.same("grow", 2, () -> bench.grow(0));
        Check.same("rows", 2, () -> bench.table(0, 1));
        Check.same("a", 0, () -> bench.caseOf(0, 1, 0));
        Check.same("b", 1, () -> bench.caseOf(0, 1, 1));
        Check.same("it holds", true, () -> bench.holds(0, 1));
        Check.same("all hold", 2, () -> bench.table(0, 3));
        Check.same("it is = and not any", true, () -> bench.finds(0, 0));
        Check.same("the other table stays", 1, () -> bench.table(1, 1));
        Check.same("grow of the other", 2, () -> bench.grow(1));
        Check.same("goes on behind it", 2, () -> bench.caseOf(1, 1, 1));
        Check.same("cases", 4, () -> bench.count(3));
        Check.noIndex("grow -1", () -> bench.grow(-1));
        Check.noIndex("grow 2", () -> bench.grow(2));
        CaseTables wide = Text.compiled("fun f(a in 20..20) = a * 9999 * 9999 * 9999 * 9999; table t of f: 20: any;"
                + "fun g(a in 19..20) = f(a); table u of g: 20: any;");
        Check.noState("all pairs tried", () -> wide.grow(0));
        Check.same("a value of more than 32 bits", 2, () -> wide.grow(1));
        Check.same("holds", true, () -> wide.holds(1, 1));
    }

    private static void growWithErrors() {
        CaseTables bench = Text.compiled("fun f(a in 0..2) = 2 / (a - 1); table t of f: 0: = -2;");
        Check.same("grow with an error", 2, () -> bench.grow(0));
        Check.same("the case", 1, () -> bench.caseOf(0, 1, 0));
        Check.same("holds", true, () -> bench.holds(0, 1));
        Check.same("an error is due", true, () -> bench.finds(0, 3));
        Check.same("grow with a value", 3, () -> bench.grow(0));
        Check.noState("no more", () -> bench.grow(0));
        Check.same("and nothing changes", 3, () -> bench.table(0, 2));
    }

    private static void growLimits() {
        CaseTables bench = Text.compiled("fun f(a in -20..20) = a; table t of f: 0: any; table u of f: 0: any;");
        for (int rows = 2; rows <= 12; rows++) {
            int due = rows;
            Check.same("grow to " + rows, due, () -> bench.grow(0));
        }
        Check.noState("a 13th row", () -> bench.grow(0));
        Check.same("rows stay", 12, () -> bench.table(0, 1));
        Check.same("another table grows on", 2, () -> bench.grow(1));
        Check.same("with what is next", -9, () -> bench.caseOf(1, 1, 0));
        bench.shorten(0);
        Check.same("a dropped row makes room", 2, () -> bench.grow(0));
        Check.same("and its value is next again", -20, () -> bench.caseOf(0, 1, 0));
        CaseTables full = Text.compiled("fun f(a in 0..20, b in 0..20) = a; table t of f: 0..9, 0..9: any;"
                + "table u of f: 0..8, 0..10: any;");
        Check.noState("a 101st case", () -> full.grow(0));
        Check.same("a 100th case", 100, () -> full.grow(1));
        Check.noState("a 101st case behind it", () -> full.grow(1));
        Check.same("cases stay", 200, () -> full.count(3));
    }

    private static void shorten() {
        CaseTables bench = Text.compiled(MAX + "table t of max: 2, 1: = 2 | 0, 1: any | 1, 2: = 2 | 3, *: any;"
                + "table u of max: 0, 1: any | 1, 2: = 2;");
        // each = row finds the if alone: the last of them goes, then the first is kept
        Check.same("shorten", 1, () -> bench.shorten(0));
        Check.same("the first one stays", 2, () -> bench.caseOf(0, 0, 0));
        Check.same("cases then", 1, () -> bench.table(0, 2));
        Check.same("it finds as before", true, () -> bench.finds(0, 0));
        Check.same("shorten again", 1, () -> bench.shorten(0));
        Check.same("rows that find nothing go, the last one stays", 1, () -> bench.shorten(1));
        Check.same("it is the one that finds", 1, () -> bench.caseOf(1, 0, 0));
        Check.same("as before", true, () -> bench.finds(1, 0));
        Check.same("cases of all", 2, () -> bench.count(3));
        Check.noIndex("shorten -1", () -> bench.shorten(-1));
        Check.noIndex("shorten 2", () -> bench.shorten(2));
        CaseTables both = Text.compiled("fun f(a in 0..3, b in 0..3) = a + b * 2;"
                + "table t of f: 1, 0: = 1 | 0, 1: = 2 | 0, 0: = 0 | 1, 1: = 3 | 2, 2: < 7;");
        // 1 1 finds all: + and * and 2; so all the others go
        Check.same("one row for all", 1, () -> both.shorten(0));
        Check.same("which one", 1, () -> both.caseOf(0, 0, 1));
        CaseTables two = Text.compiled("fun f(a in 0..3) = (if a then a + 1 else 3);"
                + "table t of f: 0: = 3 | 1: = 2 | 0: any | 0: = 3;");
        // a 0 finds the if and the 3, a 1 the if and + and 1
        Check.same("two rows are kept", 2, () -> two.shorten(0));
        Check.same("the first", 0, () -> two.caseOf(0, 0, 0));
        Check.same("the second", 1, () -> two.caseOf(0, 1, 0));
        Check.same("score stays", 1.0, () -> two.score(0));
    }

    private static void shortenKeepsOne() {
        CaseTables bench = Text.compiled("fun f(a in 0..3) = a + 1; table t of f: 3: any | 2: any | 1: any;"
                + "table u of f: 0: any;");
        Check.same("nothing found: the first row stays", 1, () -> bench.shorten(0));
        Check.same("it is the first", 3, () -> bench.caseOf(0, 0, 0));
        Check.same("a single row stays", 1, () -> bench.shorten(1));
    }

    private static long sum(long... numbers) {
        long sum = 373;
        for (long number : numbers) {
            sum = sum * 31 + number;
        }
        return sum;
    }

    private static void digest() {
        CaseTables bench = Text.compiled("fun f(a in 0..3) = if a then 1 else 2; fun g(a in 0..1, b in -1..0) = f(b);"
                + "table t of g: 1, *: = 1 | 0, -1: any; table u of f: 2: error;");
        Text.feed(bench, "fun");
        Check.same("digest", sum(2, 2, 1, 4, 3, 1, 3, 1, 4, 4, 3, 2, 0, 1, 4, 4, 1, 1, 2, 3, 2, 1, 1, -1, 1, 0, 0, -1,
                0, 1, 1, 0, 0, 2, 3, 1), bench::digest);
        Check.same("digest changes nothing", bench.digest(), bench::digest);
        bench.compile();
        Check.same("digest without a program", sum(0, 0, 0, 0, 0), bench::digest);
    }
}
