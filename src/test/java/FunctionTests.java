/** Promises 7 to 11, and what the document says of functions. */
final class FunctionTests {
    private FunctionTests() {
    }

    static void run() {
        fun();
        operators();
        shortcuts();
        grouping();
        wrapping();
        errors();
        calls();
        longBodies();
        callExceptions();
        changes();
        changedShortcuts();
        changesStayInFunction();
        callChangedExceptions();
        inputOf();
        proposeOneInput();
        proposeTwoInputs();
        proposeThreeInputs();
    }

    private static CaseTables of(String body) {
        return Text.compiled("fun f(a in 0..3, b in -2..2, c in 1..2) = " + body + ";");
    }

    private static void value(long due, String body, int a, int b, int c) {
        CaseTables bench = of(body);
        Check.same(body + " of " + a + " " + b + " " + c, due, () -> bench.call(0, a, b, c));
    }

    private static void failing(String body, int a, int b, int c) {
        CaseTables bench = of(body);
        Check.noState(body + " of " + a + " " + b + " " + c, () -> bench.call(0, a, b, c));
    }

    private static void fun() {
        CaseTables bench = Text.compiled("fun f(a in 0..3, b in -2..2, c in 1..2) = if a < 3 then -b else 4 * c;"
                + "fun g(x in -20..20) = f(x, x, x); fun h(x in 0..1, y in 5..7) = y;"
                + "table t of f: 0, 0, 1: any; table u of f: 0..1, 0, *: any; table v of h: 0, *: any;"
                + "table w of h: *, 6: any;");
        int[][] due = {
            {3, 5, 2, 4 * 5 * 2, 4 * 5 + 4 * 2 + 5 * 2, 38 - 2 - 4 - 2},
            {1, 0, 0, 41, 41, 41},
            {2, 0, 2, 6, 6, 2}
        };
        for (int fun = 0; fun < due.length; fun++) {
            for (int what = 0; what < 6; what++) {
                int number = fun;
                int asked = what;
                Check.same("fun " + fun + " " + what, due[fun][what], () -> bench.fun(number, asked));
            }
        }
        Check.noIndex("fun 3", () -> bench.fun(3, 0));
        Check.noIndex("fun -1", () -> bench.fun(-1, 0));
        Check.noIndex("fun 0 6", () -> bench.fun(0, 6));
        Check.noIndex("fun 0 -1", () -> bench.fun(0, -1));
        CaseTables most = Text.compiled("fun f(a in -20..20, b in -20..20, c in -20..20) = 1;");
        Check.same("the most rows of inputs", 68921, () -> most.fun(0, 3));
        Check.same("the most pairs", 5043, () -> most.fun(0, 4));
        Check.same("the most pairs that are not tried", 5043, () -> most.fun(0, 5));
    }

    private static void operators() {
        value(7, "a + b", 3, 4, 0);
        value(-1, "a - b", 3, 4, 0);
        value(-12, "a * b", 3, -4, 0);
        value(-3, "a / b", -7, 2, 0);
        value(-3, "a / b", 7, -2, 0);
        value(3, "a / b", -7, -2, 0);
        value(-1, "a % b", -7, 2, 0);
        value(1, "a % b", 7, -2, 0);
        value(-1, "a % b", -7, -2, 0);
        value(0, "a % b", -8, 2, 0);
        value(-3, "-a", 3, 0, 0);
        value(0, "not a", -3, 0, 0);
        value(1, "not a", 0, 0, 0);
        value(1, "not not a", 5, 0, 0);
        int[][] due = {{0, 1, 0}, {1, 0, 1}, {1, 0, 0}, {0, 0, 1}, {1, 1, 0}, {0, 1, 1}};
        String[] compares = {"=", "<>", "<", ">", "<=", ">="};
        for (int i = 0; i < compares.length; i++) {
            for (int order = 0; order < 3; order++) {
                value(due[i][order], "a " + compares[i] + " b", 1 + order, 2, 0);
            }
        }
        value(1, "a and b", -1, 7, 0);
        value(0, "a and b", -1, 0, 0);
        value(0, "a and b", 0, 7, 0);
        value(1, "a or b", 0, 7, 0);
        value(1, "a or b", 7, 0, 0);
        value(0, "a or b", 0, 0, 0);
        value(5, "if a then 5 else 6", -1, 0, 0);
        value(6, "if a then 5 else 6", 0, 0, 0);
        value(9999, "9999", 0, 0, 0);
        value(7, "0007", 0, 0, 0);
        value(Integer.MIN_VALUE, "a", Integer.MIN_VALUE, 0, 0);
        value(Integer.MAX_VALUE, "c", 0, 0, Integer.MAX_VALUE);
    }

    private static void shortcuts() {
        value(0, "a and 1 / 0", 0, 0, 0);
        failing("a and 1 / 0", 1, 0, 0);
        value(1, "a or 1 / 0", 2, 0, 0);
        failing("a or 1 / 0", 0, 0, 0);
        failing("1 / 0 and a", 0, 0, 0);
        failing("1 / 0 or a", 1, 0, 0);
        value(0, "a and b and 1 / 0", 1, 0, 0);
        value(0, "a and 1 / 0 and 1 / 0", 0, 0, 0);
        value(1, "a or b or 1 / 0", 0, 1, 0);
        value(1, "a and 1 / 0 or b", 0, 1, 0);
        failing("(a or b) and 1 / 0", 0, 1, 0);
        value(1, "a and 2 + 1", 1, 0, 0);
        value(1, "if a then 1 else 1 / 0", 1, 0, 0);
        value(2, "if a then 1 / 0 else 2", 0, 0, 0);
        failing("if a then 1 / 0 else 2", 1, 0, 0);
        failing("if 1 / 0 then 1 else 2", 1, 0, 0);
    }

    private static void grouping() {
        value(1, "a - b - c", 6, 3, 2);
        value(9, "a / b * c", 6, 2, 3);
        value(1, "a % b / c", 17, 10, 4);
        value(2, "a * b % c", 4, 3, 5);
        value(14, "a + b * c", 2, 3, 4);
        value(20, "(a + b) * c", 2, 3, 4);
        value(-5, "-a - b", 2, 3, 0);
        value(-6, "-a * b", 2, 3, 0);
        value(2, "a - -b + c", 1, 3, -2);
        value(1, "a + b = c", 2, 3, 5);
        value(0, "not a = b", 3, 3, 0);
        value(1, "not (a = b)", 3, 4, 0);
        value(1, "a or b and c", 1, 0, 0);
        value(0, "(a or b) and c", 1, 0, 0);
        value(1, "a < b and b < c", 1, 2, 3);
        value(8, "if a then b else c + 1", 0, 9, 7);
        value(9, "if a then b else c + 1", 1, 9, 7);
        value(10, "(if a then b else c) + 1", 1, 9, 7);
        value(3, "if a then if b then 1 else 2 else 3", 0, 0, 0);
        value(2, "if a then if b then 1 else 2 else 3", 1, 0, 0);
        value(4, "if if a then b else c then 4 else 5", 0, 0, 1);
        value(5, "if a = b then 4 else if c then 5 else 6", 0, 1, 1);
    }

    private static void wrapping() {
        int most = Integer.MAX_VALUE;
        int least = Integer.MIN_VALUE;
        value(Long.MIN_VALUE, "a * b * c", least, least, 2);
        value(Long.MIN_VALUE, "-(a * b * c)", least, least, 2);
        value(Long.MAX_VALUE, "a * b * c - 1", least, least, 2);
        value(Long.MIN_VALUE, "a * b * c / -1", least, least, 2);
        value(0, "a * b * c % -1", least, least, 2);
        value(0, "a * b * c + a * b * c", least, least, 2);
        value((long) most * most, "a * b", most, most, 0);
        value((long) most * most * most, "a * b * c", most, most, most);
        value(2L * most, "a + b", most, most, 0);
        value(1, "a * b * c < 0", least, least, 2);
        value(2147483648L, "-a", least, 0, 0);
        value(1, "a + b > c", most, most, most);
        value(0, "a * b * 4 = 1 or a * b * 4", least, least, 0);
    }

    private static void errors() {
        failing("a / b", 5, 0, 0);
        failing("a % b", 5, 0, 0);
        failing("0 / 0", 0, 0, 0);
        failing("a / (b - c)", 1, 4, 4);
        failing("1 + a / b * 0", 1, 0, 0);
        failing("not (a / b)", 1, 0, 0);
        value(5, "a / b", 5, 1, 0);
    }

    private static void calls() {
        CaseTables bench = Text.compiled("fun inc(a in 0..1) = a + 1;"
                + "fun sub(a in 0..1, b in 0..1) = a - b;"
                + "fun mix(a in 0..1, b in 0..1, c in 0..1) = sub(inc(a), sub(b, inc(c))) * 10 + c;"
                + "fun div(a in 0..1, b in 0..1) = a / b;"
                + "fun use(a in 0..1, b in 0..1) = if b or div(a, b) then inc(a) else 0;"
                + "fun six(a in 0..1, b in 0..1) = use(a, b) + mix(a, b, a) - a;");
        Check.same("inc", 101L, () -> bench.call(0, 100, 5, 6));
        Check.same("sub", 70L, () -> bench.call(1, 100, 30, 6));
        Check.same("mix", 10L * (101 - (30 - 8)) + 7, () -> bench.call(2, 100, 30, 7));
        Check.same("use", 6L, () -> bench.call(4, 5, 1, 0));
        Check.noState("an error of what is called", () -> bench.call(4, 5, 0, 0));
        Check.same("six", 6 + 10L * (6 - (1 - 6)) + 5 - 5, () -> bench.call(5, 5, 1, 0));
        Check.same("inputs that it does not have do not matter", 1L,
                () -> bench.call(0, 0, Integer.MIN_VALUE, Integer.MAX_VALUE));
        CaseTables order = Text.compiled("fun one(a in 0..1) = 1; fun f(a in 0..1, b in 0..1) = one(a / b);");
        Check.noState("an argument that is not used is reckoned", () -> order.call(1, 1, 0, 0));
    }

    private static void longBodies() {
        StringBuilder all = new StringBuilder("a");
        for (int i = 0; i < 23; i++) {
            all.append(" and a");
        }
        value(1, all + " and b", 1, 5, 0);
        value(0, all + " and b", 1, 0, 0);
        changed(1, all + " and b", 23, 1, 0, 0);
        CaseTables bench = Text.compiled("fun f(a in 0..1, b in 0..1, c in 0..1) ="
                + "1+2*(a+3*(a+4*(a+5*(a+6*(a+7*(a+8*(b+c)))))));"
                + "fun g(a in 0..1, b in 0..1, c in 0..1) = 1+2*(a+3*(a+4*(a+5*(a+6*f(a, b, 1+2*f(a, b, c))))));");
        long inner = 1 + 2 * (1 + 3 * (1 + 4 * (1 + 5 * (1 + 6 * (1 + 7 * (1 + 8 * (2 + 3)))))));
        long outer = 1 + 2 * (1 + 3 * (1 + 4 * (1 + 5 * (1 + 6 * (1 + 7 * (1 + 8 * (2 + 1 + 2 * inner)))))));
        Check.same("deep brackets", inner, () -> bench.call(0, 1, 2, 3));
        Check.same("deep brackets and calls", 1 + 2 * (1 + 3 * (1 + 4 * (1 + 5 * (1 + 6 * outer)))),
                () -> bench.call(1, 1, 2, 3));
    }

    private static void callExceptions() {
        CaseTables bench = Text.compiled("fun f(a in 0..3) = 1 / a;");
        Check.noIndex("call -1", () -> bench.call(-1, 0, 0, 0));
        Check.noIndex("call 1", () -> bench.call(1, 0, 0, 0));
        Check.noIndex("call of the least", () -> bench.call(Integer.MIN_VALUE, 0, 0, 0));
        Check.noState("call with an error", () -> bench.call(0, 0, 0, 0));
        Check.same("call behind an error", 1L, () -> bench.call(0, 1, 0, 0));
    }

    private static void changed(long due, String body, int place, int a, int b, int c) {
        CaseTables bench = of(body);
        Check.same(body + " changed at " + place, due, () -> bench.callChanged(0, place, a, b, c));
    }

    private static void failingChanged(String body, int place, int a, int b, int c) {
        CaseTables bench = of(body);
        Check.noState(body + " changed at " + place, () -> bench.callChanged(0, place, a, b, c));
    }

    private static void changes() {
        changed(6, "5", 0, 0, 0, 0);
        changed(10000, "9999", 0, 0, 0, 0);
        changed(-6, "-5", 0, 0, 0, 0);
        changed(-1, "a + b", 0, 3, 4, 0);
        changed(7, "a - b", 0, 3, 4, 0);
        changed(2, "a * b", 0, 8, 4, 0);
        changed(32, "a / b", 0, 8, 4, 0);
        changed(0, "a / b", 0, 8, 0, 0);
        failingChanged("a * b", 0, 8, 0, 0);
        changed(28, "a % b", 0, 7, 4, 0);
        int[][] due = {{1, 0, 1}, {0, 1, 0}, {1, 1, 0}, {0, 1, 1}, {1, 0, 0}, {0, 0, 1}};
        String[] compares = {"=", "<>", "<", ">", "<=", ">="};
        for (int i = 0; i < compares.length; i++) {
            for (int order = 0; order < 3; order++) {
                changed(due[i][order], "a " + compares[i] + " b", 0, 1 + order, 2, 0);
            }
        }
        changed(6, "if a then 5 else 6", 0, 1, 0, 0);
        changed(5, "if a then 5 else 6", 0, 0, 0, 0);
        failingChanged("if a then 5 else 1 / 0", 0, 1, 0, 0);
        failingChanged("if 1 / 0 then 5 else 5", 0, 1, 0, 0);
        // numbered in the order in which they stand; a sign in front and not have no number
        CaseTables bench = Text.compiled("fun f(a in 0..3, b in 0..3, c in 0..1) ="
                + "if -a < 1 and not b = 1 then a + 3 * (b - 4) else c;");
        Check.same("places", 11, () -> bench.fun(0, 1));
        Check.same("unchanged", 5 - 12, () -> bench.call(0, 5, 0, 9));
        int[] dues = {9, -7, -7, -7, 9, 9, 5 + 12, 5 - 16, 5 + 0, 5 + 12, 5 - 15};
        for (int place = 0; place < dues.length; place++) {
            int changed = place;
            Check.same("changed at " + place, dues[place], () -> bench.callChanged(0, changed, 5, 0, 9));
        }
        String simple = "1 + 2 * 3 - 4 < 5";
        int[] simpleDues = {2 + 6 - 4 < 5 ? 1 : 0, 1 - 6 - 4 < 5 ? 1 : 0, 1 + 9 - 4 < 5 ? 1 : 0,
            1 + 2 / 3 - 4 < 5 ? 1 : 0, 1 + 8 - 4 < 5 ? 1 : 0, 1 + 6 + 4 < 5 ? 1 : 0, 1 + 6 - 5 < 5 ? 1 : 0,
            1 + 6 - 4 <= 5 ? 1 : 0, 1 + 6 - 4 < 6 ? 1 : 0};
        for (int place = 0; place < simpleDues.length; place++) {
            changed(simpleDues[place], simple, place, 0, 0, 0);
        }
        // what stands on both sides stays as it was read
        changed(2 + 3 / 4, "a + b * c", 1, 2, 3, 4);
        changed(2 * (3 + 4), "a / (b + c)", 0, 2, 3, 4);
        changed((2 + 3) * 4, "(a - b) * c", 0, 2, 3, 4);
        changed(20 / 3 / 2, "a * b / c", 0, 20, 3, 2);
        changed(0, "a or b and c", 0, 1, 0, 0);
        changed(1, "a and b or c", 1, 1, 1, 1);
        changed(0, "a and b or c", 1, 1, 1, 0);
    }

    private static void changedShortcuts() {
        changed(1, "a and 1 / 0", 0, 1, 0, 0);
        failingChanged("a and 1 / 0", 0, 0, 0, 0);
        changed(0, "a or 1 / 0", 0, 0, 0, 0);
        failingChanged("a or 1 / 0", 0, 1, 0, 0);
        changed(1, "a and b", 0, 5, 0, 0);
        changed(1, "a and b", 0, 0, 5, 0);
        changed(0, "a or b", 0, 5, 0, 0);
        changed(1, "a or b", 0, 5, 6, 0);
    }

    private static void changesStayInFunction() {
        CaseTables bench = Text.compiled("fun f(a in 0..3) = a + 1;"
                + "fun g(a in 0..3) = f(a) * 10 + f(2);");
        Check.same("places of g", 4, () -> bench.fun(1, 1));
        Check.same("unchanged", 43L, () -> bench.call(1, 3, 0, 0));
        Check.same("* of g", 4 / 10 + 3L, () -> bench.callChanged(1, 0, 3, 0, 0));
        Check.same("10 of g", 4 * 11 + 3L, () -> bench.callChanged(1, 1, 3, 0, 0));
        Check.same("+ of g", 4 * 10 - 3L, () -> bench.callChanged(1, 2, 3, 0, 0));
        Check.same("2 of g", 4 * 10 + 4L, () -> bench.callChanged(1, 3, 3, 0, 0));
        Check.same("the change is gone behind it", 43L, () -> bench.call(1, 3, 0, 0));
    }

    private static void callChangedExceptions() {
        CaseTables bench = Text.compiled("fun f(a in 0..3) = 1 / a; fun g(a in 0..3) = a;");
        Check.noIndex("callChanged -1", () -> bench.callChanged(-1, 0, 0, 0, 0));
        Check.noIndex("callChanged 2", () -> bench.callChanged(2, 0, 0, 0, 0));
        Check.noIndex("place -1", () -> bench.callChanged(0, -1, 1, 0, 0));
        Check.noIndex("place 2", () -> bench.callChanged(0, 2, 1, 0, 0));
        Check.noIndex("no place at all", () -> bench.callChanged(1, 0, 1, 0, 0));
        Check.noIndex("no place goes ahead of an error", () -> bench.callChanged(0, 2, 0, 0, 0));
        Check.noState("an error with the change", () -> bench.callChanged(0, 0, 0, 0, 0));
        Check.same("no error with the change", 0L, () -> bench.callChanged(0, 1, 0, 0, 0));
    }

    private static void inputOf() {
        CaseTables bench = Text.compiled("fun f(a in -1..1, b in 5..6, c in 0..3) = a; fun g(a in -20..20) = a;"
                + "fun h(a in 3..4, b in -2..0) = a;");
        int index = 0;
        for (int a = -1; a <= 1; a++) {
            for (int b = 5; b <= 6; b++) {
                for (int c = 0; c <= 3; c++) {
                    int row = index++;
                    Check.same("inputOf " + row + " a", a, () -> bench.inputOf(0, row, 0));
                    Check.same("inputOf " + row + " b", b, () -> bench.inputOf(0, row, 1));
                    Check.same("inputOf " + row + " c", c, () -> bench.inputOf(0, row, 2));
                }
            }
        }
        Check.noIndex("row 24", () -> bench.inputOf(0, 24, 0));
        Check.noIndex("row -1", () -> bench.inputOf(0, -1, 0));
        Check.noIndex("input 3", () -> bench.inputOf(0, 0, 3));
        Check.noIndex("input -1", () -> bench.inputOf(0, 0, -1));
        Check.noIndex("input 1 of g", () -> bench.inputOf(1, 0, 1));
        Check.noIndex("input 2 of h", () -> bench.inputOf(2, 0, 2));
        Check.noIndex("no function", () -> bench.inputOf(3, 0, 0));
        Check.noIndex("no function -1", () -> bench.inputOf(-1, 0, 0));
        Check.same("the last of g", 20, () -> bench.inputOf(1, 40, 0));
        Check.noIndex("row 41 of g", () -> bench.inputOf(1, 41, 0));
        Check.same("h 2 0", 3, () -> bench.inputOf(2, 2, 0));
        Check.same("h 3 0", 4, () -> bench.inputOf(2, 3, 0));
        Check.same("h 2 1", 0, () -> bench.inputOf(2, 2, 1));
    }

    private static void proposeOneInput() {
        CaseTables bench = Text.compiled("fun f(a in -2..2) = a; table t of f: -2: any | 0..1: any;");
        Check.same("the first value not tried", 1, () -> bench.propose(0));
        bench.grow(0);
        Check.same("then the next one", 4, () -> bench.propose(0));
        bench.grow(0);
        Check.same("then none", -1, () -> bench.propose(0));
        Check.noIndex("propose -1", () -> bench.propose(-1));
        Check.noIndex("propose 1", () -> bench.propose(1));
        CaseTables none = Text.compiled("fun f(a in -2..2) = a; fun g(a in 1..1) = a; table t of g: 1: any;");
        Check.same("without a table", 0, () -> none.propose(0));
        Check.same("all tried", -1, () -> none.propose(1));
    }

    private static void proposeTwoInputs() {
        CaseTables bench = Text.compiled("fun f(a in 0..1, b in 0..2) = a;"
                + "table t of f: 0, 0..1: any; table u of f: 1, 0: any | 0, 2: any;");
        Check.same("tables of the function go together", 4, () -> bench.propose(0));
        Check.same("pairs left", 2, () -> bench.fun(0, 5));
        bench.shorten(1);
        Check.same("behind shorten the pairs of a dropped row are not tried", 2, () -> bench.propose(0));
    }

    private static void proposeThreeInputs() {
        CaseTables bench = Text.compiled("fun f(a in 0..1, b in 0..1, c in 0..1) = a; table t of f: 0, 0, 0: any;");
        // 0 0 1 has two pairs, 0 1 1 has all three, being the first one with them
        Check.same("the most pairs, then the first", 3, () -> bench.propose(0));
        bench.grow(0);
        Check.same("then 1 0 1", 5, () -> bench.propose(0));
        bench.grow(0);
        Check.same("then 1 1 0", 6, () -> bench.propose(0));
        bench.grow(0);
        Check.same("then none", -1, () -> bench.propose(0));
        CaseTables two = Text.compiled("fun f(a in 0..1, b in 0..1, c in 0..2) = a;"
                + "table t of f: *, *, 0: any | 0, 0, 1: any;");
        // a b are all tried, 0 0 2 has both others, and 1 1 1 would have them too
        Check.same("two of three", 2, () -> two.propose(0));
        CaseTables one = Text.compiled("fun f(a in 0..1, b in 0..1, c in 0..1) = a;"
                + "table t of f: *, *, 0: any | 0, *, 1: any;");
        Check.same("one of three", 5, () -> one.propose(0));
        CaseTables most = Text.compiled("fun f(a in -20..20, b in -20..20, c in -20..20) = a;"
                + "table t of f: -20, -20, *: any | -20, -19..20, -20: any;");
        // -19 -19 -19: of all a b c ahead of it none has three pairs that are not tried
        Check.same("wide ranges", 41 * 41 + 41 + 1, () -> most.propose(0));
    }
}
