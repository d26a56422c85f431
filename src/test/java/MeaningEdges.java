/** The boundaries of the errors 2 to 6 in "1. The language", each by the words of the document that name it. */
final class MeaningEdges {
    private static final String F = "fun f(a in 0..3, b in -2..2) = a + b;";
    private static final String WIDE = "fun f(a in -20..20, b in -20..20, c in -20..20) = a;";
    /** A function with the size 45. */
    private static final String SIZE_45 = "fun f(a in 0..1) = a" + "+a".repeat(22) + ";";

    private MeaningEdges() {
    }

    static void run() {
        Doc.each(
            MeaningEdges::formGoesAhead, MeaningEdges::itemByItem, MeaningEdges::leftToRight, MeaningEdges::noInput,
            MeaningEdges::noFunctionCalled, MeaningEdges::noFunctionOfTable, MeaningEdges::nameOfItem,
            MeaningEdges::nameOfInput, MeaningEdges::sevenFunctions, MeaningEdges::sevenTables,
            MeaningEdges::fourInputs, MeaningEdges::fourthInputAheadOfItsName, MeaningEdges::thirteenRows,
            MeaningEdges::thirteenthRowAheadOfCells, MeaningEdges::hundredCases, MeaningEdges::casesAtFirstToken,
            MeaningEdges::sizeOver200, MeaningEdges::sizeIsCounted, MeaningEdges::sizeOfCalls,
            MeaningEdges::boundOfInput, MeaningEdges::secondBound, MeaningEdges::numberOfCell,
            MeaningEdges::secondNumberOfCell, MeaningEdges::errorFiveAtNumber, MeaningEdges::argumentCount,
            MeaningEdges::argumentsLookedAtFirst, MeaningEdges::cellCount, MeaningEdges::cellsLookedAtFirst,
            MeaningEdges::cellsTooMany);
    }

    private static void says(String words) {
        Doc.says("1. The language", words);
    }

    private static String functions(int number) {
        StringBuilder all = new StringBuilder();
        for (int i = 0; i < number; i++) {
            all.append("fun f").append(i).append("(a in 0..3) = a;");
        }
        return all.toString();
    }

    private static String tables(int number) {
        StringBuilder all = new StringBuilder(functions(1));
        for (int i = 0; i < number; i++) {
            all.append("table t").append(i).append(" of f0: *: any;");
        }
        return all.toString();
    }

    private static void formGoesAhead() {
        says("Only if there is no error of form, the meaning is looked at");
        Text.refusedAtMark(1, "fun f(a in 0..3) = q@");
        Text.refusedAtMark(1, "fun f(a in 99..3, a in 0..0) = q; fun f(a in 0..3) = a @!;");
        Text.refusedAtMark(1, functions(7) + "@x");
        Text.refusedAtMark(1, tables(7) + "table t0 of q: 99: @x;");
        Text.refusedAtMark(1, SIZE_45 + "fun g(a in 0..1) = f(a)+f(a)+f(a)+f(a)+f(a)@");
    }

    private static void itemByItem() {
        says("item by item");
        Text.refusedAtMark(2, "fun f(a in 0..3) = @q; fun f(a in 0..99) = a;");
        Text.refusedAtMark(5, "fun f(a in 0..@99) = a; fun f(a in 0..3) = q;");
        Text.refusedAtMark(6, F + "table t of f: @*: any; table t of q: *: any;");
        // what is looked at behind the expression still goes ahead of the next item
        Text.refusedAtMark(4, SIZE_45 + "fun @g(a in 0..1) = f(a)+f(a)+f(a)+f(a)+f(a); fun f(a in 0..99) = q;");
    }

    private static void leftToRight() {
        says("in each from left to right: the first of these errors.");
        Text.refusedAtMark(3, F + "fun @f(a in 0..99, a in 0..1) = q;");
        Text.refusedAtMark(5, "fun f(a in 0..@99, a in 0..1) = q;");
        Text.refusedAtMark(3, "fun f(a in 0..1, @a in 0..99) = q;");
        Text.refusedAtMark(2, "fun f(a in 0..1) = @q + r(1) + f(a);");
        Text.refusedAtMark(2, F + "fun g(a in 0..1) = @q + f(a);");
        Text.refusedAtMark(6, F + "fun g(a in 0..1) = @f(a) + q;");
        Text.refusedAtMark(3, F + "table @f of q: 99: any;");
        Text.refusedAtMark(2, F + "table t of @q: 99: any;");
        Text.refusedAtMark(5, F + "table t of f: 0, @99: any | 0: any;");
        Text.refusedAtMark(6, F + "table t of f: @0: any | 0, 99: any;");
    }

    // ---- error 2

    private static void noInput() {
        says("a name in an expression that is no input of this function");
        Text.refusedAtMark(2, "fun f(a in 0..3) = @b;");
        Text.refusedAtMark(2, "fun f(a in 0..3) = a + @aa;");
        Text.refusedAtMark(2, "fun f(a in 0..3) = @f;");
        Text.refusedAtMark(2, F + "fun g(a in 0..3) = @f;");
        Text.refusedAtMark(2, F + "table t of f: *, *: any; fun g(a in 0..3) = @t;");
        // inputs of the functions ahead are none of this one
        Text.refusedAtMark(2, F + "fun g(c in 0..3) = c + @a;");
        Text.refusedAtMark(2, WIDE + "fun g(a in 0..3) = a + @b;");
        CaseTables bench = Text.compiled(WIDE);
        Text.feed(bench, "fun f(a in 0..3) = c;");
        Check.same("nor are those of a program that is gone", 2, bench::compile);
        Text.accepted("fun f(f in 0..3) = f; fun g(f in 0..3) = f;");
    }

    private static void noFunctionCalled() {
        says("one with a \"(\" behind it that is no function told ahead");
        Text.refusedAtMark(2, "fun f(a in 0..3) = @q(a);");
        Text.refusedAtMark(2, "fun f(a in 0..3) = @a(a);");
        Text.refusedAtMark(2, "fun f(a in 0..3) = @f(a);");
        Text.refusedAtMark(2, "fun f(a in 0..3) = @g(a); fun g(a in 0..3) = a;");
        Text.refusedAtMark(2, F + "table t of f: *, *: any; fun g(a in 0..3) = @t(a, a);");
        // ahead of its arguments
        Text.refusedAtMark(2, "fun f(a in 0..3) = @q(x);");
        Text.accepted("fun f(f in 0..3) = f; fun g(f in 0..3) = f(f);");
    }

    private static void noFunctionOfTable() {
        says("behind of, no function told ahead");
        Text.refusedAtMark(2, F + "table t of @q: *, *: any;");
        Text.refusedAtMark(2, F + "table t of @a: *, *: any;");
        Text.refusedAtMark(2, F + "table t of @t: *, *: any;");
        Text.refusedAtMark(2, F + "table s of f: *, *: any; table t of @s: *, *: any;");
        Text.refusedAtMark(2, F + "table t of @g: *: any; fun g(a in 0..3) = a;");
        Text.refusedAtMark(2, "table t of @f: *: any; fun f(a in 0..3) = a;");
        Text.accepted(F + "table t of f: *, *: any;");
    }

    // ---- error 3

    private static void nameOfItem() {
        says("a name of an item that an item has already");
        Text.refusedAtMark(3, F + "fun @f(a in 0..1) = a;");
        Text.refusedAtMark(3, F + "table @f of f: *, *: any;");
        Text.refusedAtMark(3, F + "table t of f: *, *: any; table @t of f: *, *: any;");
        Text.refusedAtMark(3, F + "table t of f: *, *: any; fun @t(a in 0..1) = a;");
        Text.refusedAtMark(3, "fun abcdefgh(a in 0..1) = a; fun @abcdefgh(a in 0..1) = a;");
        // the name of an input is none of an item
        Text.accepted(F + "fun a(a in 0..1) = a; table b of a: *: any;");
    }

    private static void nameOfInput() {
        says("of an input that an input of this function has already");
        Text.refusedAtMark(3, "fun f(a in 0..3, @a in 0..3) = a;");
        Text.refusedAtMark(3, "fun f(a in 0..3, b in 0..3, @a in 0..3) = a;");
        Text.refusedAtMark(3, "fun f(a in 0..3, b in 0..3, @b in 0..3) = a;");
        Text.refusedAtMark(3, "fun f(a in 0..3, @a in 0..99) = a;");
        Text.accepted(F + "fun g(a in 0..3, b in 0..3) = a; fun h(b in 0..3, a in 0..1, h in 0..1) = h;");
    }

    // ---- error 4

    private static void sevenFunctions() {
        says("Error 4: one too many: a 7th function");
        Text.accepted(functions(6));
        Text.refusedAtMark(4, functions(6) + "@fun g(a in 0..3) = a;");
        Text.refusedAtMark(4, functions(6) + "table t of f5: *: any; @fun g(a in 0..3) = a; fun h(a in 0..3) = a;");
        // at the first token of the item, ahead of all that is wrong in it
        Text.refusedAtMark(4, functions(6) + " @fun f0(a in 0..99, a in 0..1) = b;");
    }

    private static void sevenTables() {
        says("a 7th table (at the first token of the item)");
        Text.accepted(tables(6));
        Text.accepted(tables(6) + functions(6).substring(functions(1).length()));
        Text.refusedAtMark(4, tables(6) + "@table u of f0: *: any;");
        Text.refusedAtMark(4, tables(6) + " @table t0 of q: 7: any;");
        Text.refusedAtMark(4, tables(6) + "fun g(a in 0..1) = a; @table f0 of g: 0, 0: any;");
    }

    private static void fourInputs() {
        says("a 4th input");
        Text.accepted("fun f(a in 0..3, b in 0..3, c in 0..3) = a;");
        Text.refusedAtMark(4, "fun f(a in 0..3, b in 0..3, c in 0..3, @d in 0..3) = a;");
        Text.refusedAtMark(4, "fun f(a in 0..3, b in 0..3, c in 0..3, @d in 0..3, e in 0..3) = a;");
        Text.refusedAtMark(5, "fun f(a in 0..3, b in 0..3, c in 0..@99, d in 0..3) = a;");
    }

    private static void fourthInputAheadOfItsName() {
        says("(at its name; ahead of error 3)");
        Text.refusedAtMark(4, "fun f(a in 0..3, b in 0..3, c in 0..3, @a in 0..3) = a;");
        Text.refusedAtMark(4, "fun f(a in 0..3, b in 0..3, c in 0..3, @c in 99..3) = q;");
        Text.refusedAtMark(3, "fun f(a in 0..3, b in 0..3, @b in 0..3, b in 0..3) = a;");
    }

    private static void thirteenRows() {
        says("a 13th row of a table");
        String twelve = "fun f(a in 0..3) = a; table t of f: 0: any" + " | 0: any".repeat(11);
        Text.accepted(twelve + ";");
        Text.refusedAtMark(4, twelve + " | @0: any;");
        Text.refusedAtMark(4, twelve + " | @*: any | 0: any;");
        Text.refusedAtMark(4, twelve + " | @-1: any;");
        // each table has its own twelve
        Text.accepted(twelve + "; table u of f: 0: any" + " | 0: any".repeat(11) + ";");
    }

    private static void thirteenthRowAheadOfCells() {
        says("(at its first token; ahead of its cells)");
        String twelve = "fun f(a in 0..3) = a; table t of f: 0: any" + " | 0: any".repeat(11);
        Text.refusedAtMark(4, twelve + " | @77: any;");
        Text.refusedAtMark(4, twelve + " | @0, 0: any;");
        Text.refusedAtMark(4, twelve + " | @3..1: any;");
        Text.refusedAtMark(5, "fun f(a in 0..3) = a; table t of f: @4: any" + " | 0: any".repeat(12) + ";");
    }

    private static void hundredCases() {
        says("a table that would have more than 100 cases");
        Text.accepted(WIDE + "table t of f: 1..10, 1..10, 0: any;");
        Text.accepted(WIDE + "table t of f: 1..10, 0, -9..0: any;");
        Text.accepted(WIDE + "table t of f: 1..9, 1..11, 0: any | 0, 0, 0: any;");
        Text.refusedAtMark(4, WIDE + "table t of f: 1..9, 1..11, 0: any | @0, 0, 0..1: any;");
        Text.refusedAtMark(4, WIDE + "table t of f: 1..10, 1..10, 0: any | @0, 0, 0: any;");
        Text.refusedAtMark(4, WIDE + "table t of f: @*, *, *: any;");
        Text.refusedAtMark(4, WIDE + "table t of f: @1..10, 1..11, 0: any;");
        Text.refusedAtMark(4, WIDE + "table t of f: 1..20, 0, 0..4: any | @*, *, *: any;");
        // each table has its own hundred
        Text.accepted(WIDE + "table t of f: 1..10, 1..10, 0: any; table u of f: 1..10, 1..10, 0: any;");
    }

    private static void casesAtFirstToken() {
        says("(at the first token of the row with which it would; behind its result)");
        String hundred = WIDE + "table t of f: 1..10, 1..10, 0: any | ";
        Text.refusedAtMark(4, hundred + "@-1, 0, 0: any | 0, 0, 0: any;");
        Text.refusedAtMark(4, hundred + "@*, 0, 0: = 1 | 99, 0, 0: any;");
        Text.refusedAtMark(5, hundred + "0, @99, 0: any;");
        Text.refusedAtMark(6, hundred + "@0, 0: any;");
        Text.refusedAtMark(6, hundred + "@0, 0, 0, 0: any;");
    }

    private static void sizeOver200() {
        says("a function whose size is greater than 200 (at its name; behind its expression)");
        // 4 * 45 and 19 tokens are 199
        String four = "f(a)+f(a)+f(a)+f(a)";
        Text.accepted(SIZE_45 + "fun g(a in 0..1) = " + four + ";");
        Text.accepted(SIZE_45 + "fun g(a in 0..1) = -" + four + ";");
        Text.refusedAtMark(4, SIZE_45 + "fun @g(a in 0..1) = - -" + four + ";");
        Text.refusedAtMark(4, SIZE_45 + "fun @g(a in 0..1) = not -" + four + ";");
        Text.refusedAtMark(2, SIZE_45 + "fun g(a in 0..1) = - -" + four + "+@q;");
        Text.refusedAtMark(6, SIZE_45 + "fun g(a in 0..1) = - -" + four + "+@f(a,a);");
        Text.refusedAtMark(5, SIZE_45 + "fun g(a in 0..@99) = - -" + four + ";");
    }

    private static void sizeIsCounted() {
        says("its size is the number of the tokens of its expression");
        // of h three calls of g are 150, one of f is 1, and the tokens are 49
        String fg = "fun f(a in 0..1) = a; fun g(a in 0..1) = -a" + "+a".repeat(24) + ";";
        String calls = "g(a)+g(a)+g(a)+f(a)";
        Text.accepted(fg + "fun h(a in 0..1) = " + calls + "+a".repeat(15) + ";");
        Text.refusedAtMark(4, fg + "fun @h(a in 0..1) = -" + calls + "+a".repeat(15) + ";");
        // each kind of token is one
        String kinds = calls + "+(if a<1 then -1 else not 2)" + "+a".repeat(8);
        Text.accepted(fg + "fun h(a in 0..1) = -" + kinds + ";");
        Text.refusedAtMark(4, fg + "fun @h(a in 0..1) = --" + kinds + ";");
    }

    private static void sizeOfCalls() {
        says("and the sizes of all functions that it calls, once for each call");
        // g is 49, h 107, and i 161 with what is added to it
        String g = SIZE_45 + "fun g(a in 0..1) = f(a); fun h(a in 0..1) = g(a)+g(a);";
        Text.accepted(g + "fun i(a in 0..1) = h(a)+f(a);");
        Text.accepted(g + "fun i(a in 0..1) = -h(a)+f(a)" + "+a".repeat(19) + ";");
        Text.refusedAtMark(4, g + "fun @i(a in 0..1) = h(a)+f(a)" + "+a".repeat(20) + ";");
        Text.refusedAtMark(4, g + "fun @i(a in 0..1) = h(a)+h(a);");
        // one call within another
        Text.accepted(SIZE_45 + "fun g(a in 0..1) = f(f(f(f(a))));");
        Text.refusedAtMark(4, SIZE_45 + "fun @g(a in 0..1) = f(f(f(f(f(a)))));");
        // a call that is never reckoned
        Text.accepted(SIZE_45 + "fun g(a in 0..1) = if 1 then 2 else f(a)+f(a)+f(a);");
        Text.refusedAtMark(4, SIZE_45 + "fun @g(a in 0..1) = if 1 then 2 else f(a)+f(a)+f(a)+f(a);");
    }

    // ---- error 5

    private static void boundOfInput() {
        says("a bound of an input that is not -20 to 20");
        Text.accepted("fun f(a in -20..-20, b in 20..20, c in -20..20) = a;");
        Text.refusedAtMark(5, "fun f(a in -@21..3) = a;");
        Text.refusedAtMark(5, "fun f(a in @21..21) = a;");
        Text.refusedAtMark(5, "fun f(a in 0..@21) = a;");
        Text.refusedAtMark(5, "fun f(a in -@9999..3) = a;");
        Text.refusedAtMark(5, "fun f(a in 0..@9999) = a;");
        Text.refusedAtMark(5, "fun f(a in -@21..-21) = a;");
        Text.refusedAtMark(5, "fun f(a in 0..3, b in 0..3, c in -20..@21) = a;");
    }

    private static void secondBound() {
        says("a second bound that is less than the first one");
        Text.accepted("fun f(a in 3..3, b in -3..-3, c in 0..-0) = a;");
        Text.refusedAtMark(5, "fun f(a in 3..@2) = a;");
        Text.refusedAtMark(5, "fun f(a in 0..-@1) = a;");
        Text.refusedAtMark(5, "fun f(a in -3..-@4) = a;");
        Text.refusedAtMark(5, "fun f(a in 20..-@20) = a;");
        Text.refusedAtMark(5, "fun f(a in 0..3, b in 1..@0) = a;");
    }

    private static void numberOfCell() {
        says("in a cell a number that is not in the range of its input");
        String f = "fun f(a in -3..5, b in 2..4) = a + b; table t of f: ";
        Text.accepted(f + "-3, 2: any | 5, 4: any | -3..5, 2..4: any;");
        Text.refusedAtMark(5, f + "-@4, 2: any;");
        Text.refusedAtMark(5, f + "@6, 2: any;");
        Text.refusedAtMark(5, f + "0, @1: any;");
        Text.refusedAtMark(5, f + "0, @5: any;");
        Text.refusedAtMark(5, f + "0, -@2: any;");
        Text.refusedAtMark(5, f + "-@4..0, 2: any;");
        Text.refusedAtMark(5, f + "-3..@6, 2: any;");
        Text.refusedAtMark(5, f + "-@4..6, 2: any;");
        Text.refusedAtMark(5, f + "0, 2..@5: any;");
        Text.refusedAtMark(5, f + "0, @1..4: any;");
        // of its input alone; the number of a result may be any
        Text.accepted(f + "5, 4: = 9999 | -3, 2: <> -9999;");
    }

    private static void secondNumberOfCell() {
        says("a second one that is less than the first one");
        String f = "fun f(a in -3..5, b in 2..4) = a + b; table t of f: ";
        Text.accepted(f + "0..0, 2..2: any | -3..-3, 4..4: any;");
        Text.refusedAtMark(5, f + "2..@1, 2: any;");
        Text.refusedAtMark(5, f + "0..-@1, 2: any;");
        Text.refusedAtMark(5, f + "-2..-@3, 2: any;");
        Text.refusedAtMark(5, f + "0, 4..@3: any;");
    }

    private static void errorFiveAtNumber() {
        says("Error 5 (at the number, without a sign)");
        Text.refused(5, 14, "fun f(a in -  21..3) = a;");
        Text.refused(5, 12, "fun f(a in -21..3) = a;");
        Text.refused(5, 15, "fun f(a in 0..-1) = a;");
        Text.refused(5, 37, "fun f(a in 0..3) = a; table t of f: -1: any;");
        Text.refused(5, 40, "fun f(a in 0..3) = a; table t of f: 1.. 0021: any;");
    }

    // ---- error 6

    private static void argumentCount() {
        says("more or fewer arguments than the function has inputs");
        String f = "fun one(a in 0..3) = a; fun two(a in 0..3, b in 0..3) = a;"
                + "fun three(a in 0..3, b in 0..3, c in 0..3) = a; fun g(a in 0..3) = a + ";
        Text.accepted(f + "one(a) + two(a, a) + three(a, a, a);");
        Text.refusedAtMark(6, f + "@one(a, a);");
        Text.refusedAtMark(6, f + "@two(a);");
        Text.refusedAtMark(6, f + "@two(a, a, a);");
        Text.refusedAtMark(6, f + "@three(a, a);");
        Text.refusedAtMark(6, f + "@three(a, a, a, a);");
    }

    private static void argumentsLookedAtFirst() {
        says("(at the name, looked at behind the arguments)");
        Text.refusedAtMark(2, F + "fun g(a in 0..1) = f(@x);");
        Text.refusedAtMark(2, F + "fun g(a in 0..1) = f(a, a, @x(a));");
        Text.refusedAtMark(6, F + "fun g(a in 0..1) = f(@f(a), x);");
        Text.refusedAtMark(6, F + "fun g(a in 0..1) = @f(a) + x;");
        Text.refusedAtMark(6, F + "fun g(a in 0..1) = @f(f(a, a));");
    }

    private static void cellCount() {
        says("more or fewer cells than inputs");
        Text.accepted(F + "table t of f: *, *: any;");
        Text.refusedAtMark(6, F + "table t of f: @*: any;");
        Text.refusedAtMark(6, F + "table t of f: @*, *, *: any;");
        Text.refusedAtMark(6, WIDE + "table t of f: @*, *: any;");
        Text.refusedAtMark(6, WIDE + "table t of f: @*, *, *, *: any;");
        Text.refusedAtMark(6, "fun f(a in -3..3) = a; table t of f: *: any | @-1, 2: any;");
    }

    private static void cellsLookedAtFirst() {
        says("(at the first token of the row; looked at behind its cells");
        Text.refusedAtMark(5, F + "table t of f: @9: any;");
        Text.refusedAtMark(5, F + "table t of f: 0, @9, 0: any;");
        Text.refusedAtMark(6, F + "table t of f: 0, 0: any | @0: any | 9, 9: any;");
        Text.refusedAtMark(6, "fun f(a in -3..3) = a; table t of f: @-3..3, *: any;");
        // ahead of the number of cases, which is looked at behind the result
        Text.refusedAtMark(6, WIDE + "table t of f: @*, *: any;");
    }

    private static void cellsTooMany() {
        says("cells that are too many are not looked at otherwise");
        Text.refusedAtMark(6, F + "table t of f: @0, 2, 77: any;");
        Text.refusedAtMark(6, F + "table t of f: @0, 2, 3..1: any;");
        Text.refusedAtMark(6, F + "table t of f: @0, 2, -9999..9999, 9999..-9999: any;");
        Text.refusedAtMark(6, F + "table t of f: @0, 2" + ", 9999".repeat(200) + ": any;");
        // but for their form
        Text.refusedAtMark(1, F + "table t of f: 0, 2, @12345: any;");
    }
}
