/** The boundaries of "1. The language" up to the errors of form, each by the words of the document that name it. */
final class FormEdges {
    private static final String F = "fun f(a in 0..3, b in -2..2) = a + b;";
    private static final String[] KEYWORDS = {
        "fun", "in", "if", "then", "else", "and", "or", "not", "table", "of", "any", "error"
    };
    /** An expression of 50 tokens. */
    private static final String FIFTY = "-a" + "+a".repeat(24);

    private FormEdges() {
    }

    static void run() {
        Doc.each(
            FormEdges::positionsFromZero, FormEdges::positionsInBytes, FormEdges::tapeHoldsAtMost1500,
            FormEdges::tapeIsEmptyAtFirst, FormEdges::tapeIsEmptyBehindCompile, FormEdges::blanksCanStand,
            FormEdges::blanksHaveToStand, FormEdges::longestTokenIsRead, FormEdges::words, FormEdges::numbers,
            FormEdges::symbols, FormEdges::keywords, FormEdges::namesLikeKeywords, FormEdges::oneOrNothing,
            FormEdges::anyNumberOfTimesAlsoNone, FormEdges::itemsOfProgram, FormEdges::inputsOfFunction,
            FormEdges::boundsOfInput, FormEdges::rowsOfTable, FormEdges::cellsOfRow, FormEdges::boundsOfCell,
            FormEdges::signsOfWhole, FormEdges::results, FormEdges::levelsOfOperators, FormEdges::oneCompare,
            FormEdges::argumentsOfCall, FormEdges::ifIsNoOperand, FormEdges::groupingFromTheLeft,
            FormEdges::depthBegins, FormEdges::depthOfBrackets, FormEdges::depthOfSigns, FormEdges::depthOfIfs,
            FormEdges::depthAtMost8, FormEdges::fiftyTokens, FormEdges::firstMisfit, FormEdges::noTokenBegins,
            FormEdges::tooLong, FormEdges::endOfTape, FormEdges::depthWouldBeNine, FormEdges::fiftyFirstToken,
            FormEdges::positionOfFirstByte);
    }

    private static void says(String words) {
        Doc.says("1. The language", words);
    }

    private static String fun(String body) {
        return "fun f(a in 0..3, b in -2..2) = " + body + ";";
    }

    private static void fits(String body) {
        Text.accepted(fun(body));
    }

    /** An error of form in an expression, at the place that a "@" marks. */
    private static void misfit(String body) {
        Text.refusedAtMark(1, fun(body));
    }

    private static void value(long due, String body, int a, int b) {
        CaseTables bench = Text.compiled(fun(body));
        Check.same(body + " of " + a + " " + b, due, () -> bench.call(0, a, b, 0));
    }

    // ---- the tape

    private static void positionsFromZero() {
        Doc.says("Terms", "Positions are counted from 0");
        Text.refused(1, 0, ";");
        Text.refused(1, 1, " ;");
        Text.refused(1, 4, "fun ;");
    }

    private static void positionsInBytes() {
        Doc.says("Terms", "in bytes");
        Text.refused(1, 2, "\n\n\u00e4\u00f6 ;");
        Text.refused(2, 20, "fun f(a in\n0..3)\n=\n\nq;");
        // a byte of 255 is one byte and no end
        Text.refused(1, 3, "fun\u00ff");
        Text.refused(1, F.length(), F + "\u00ff");
    }

    private static void tapeHoldsAtMost1500() {
        says("The tape is a row of at most 1500 bytes");
        String blanks = " ".repeat(1500 - F.length());
        Text.accepted(blanks + F);
        Text.accepted(F + blanks);
        Text.refused(1, 1499, blanks.substring(1) + F + "=");
        CaseTables bench = new CaseTables();
        Text.feed(bench, blanks + F);
        Check.same("bytes of the full tape", 1500, () -> bench.count(4));
        Check.noState("a feed behind the last byte", () -> bench.feed(0, 0, 0, 0, 0));
        Check.same("the last byte is read", 0, bench::compile);
    }

    private static void tapeIsEmptyAtFirst() {
        says("at first empty");
        CaseTables bench = new CaseTables();
        Check.same("bytes of a new tape", 0, () -> bench.count(4));
        Check.same("compile of it", 1, bench::compile);
        Check.same("errorAt of it", 0, bench::errorAt);
    }

    private static void tapeIsEmptyBehindCompile() {
        says("compile reads it, and it is empty behind it");
        String[] programs = {
            F, "fun", fun("q"), F + F, F + "table t of f: *, *: any" + " | *, *: any".repeat(5) + ";",
            "fun f(a in 0..21) = a;", F + "table t of f: *: any;"
        };
        for (int error = 0; error < programs.length; error++) {
            CaseTables bench = new CaseTables();
            Text.feed(bench, programs[error]);
            Check.same("compile of " + programs[error], error, bench::compile);
            Check.same("bytes behind " + programs[error], 0, () -> bench.count(4));
            Check.same("compile again behind " + programs[error], 1, bench::compile);
            Check.same("errorAt again behind " + programs[error], 0, bench::errorAt);
        }
    }

    // ---- tokens

    private static void blanksCanStand() {
        says("Blanks (32) and line ends (10) can stand between tokens, at the beginning and at the end");
        String spaced = "fun f ( a in - 2 .. 3 ) = if not a <> 1 then 2 else ( 4 ) ;"
                + " table t of f : * : any | - 1 .. 2 : <= - 3 ;";
        Text.accepted(spaced);
        Text.accepted(spaced.replace(" ", "\n"));
        Text.accepted(" \n \n" + spaced.replace(" ", " \n\n  ") + "\n \n ");
        for (char sign = 0; sign < 256; sign++) {
            if (sign == 32 || sign == 10) {
                Text.accepted(sign + F);
                Text.accepted(F + sign);
                Text.accepted("fun f(a in 0..3)" + sign + "= a;");
            } else {
                Text.refused(1, 0, sign + F);
                Text.refused(1, F.length(), F + sign);
                Text.refused(1, sign == '=' ? 17 : 16, "fun f(a in 0..3)" + sign + "= a;");
            }
        }
    }

    private static void blanksHaveToStand() {
        says("have to stand between two tokens that would otherwise be read as one");
        Text.refusedAtMark(1, "@funf(a in 0..3) = a;");
        Text.refusedAtMark(1, "fun f(ain @0..3) = a;");
        Text.refusedAtMark(1, "fun f(a @in0..3) = a;");
        Text.refusedAtMark(1, F + "@tablet of f: *, *: any;");
        Text.refusedAtMark(1, F + "table t @off: *, *: any;");
        misfit("if a @then1 else 2");
        misfit("ifa @then 1 else 2");
        misfit("a < @= b");
        misfit("a > @= b");
        misfit("a < @> b");
        misfit("1 @2");
        misfit("a @a");
        Text.refusedAtMark(1, "fun f(a in 0@. .3) = a;");
        Text.refusedAtMark(2, fun("@nota"));
        value(12, "12", 0, 0);
        // these would not be read as one
        Text.accepted("fun f(a in 0..3)=if(a)then-1else(2);table t of f:0:any|*:=-3;");
        value(2, "if a<1then 1else 2", 1, 0);
    }

    private static void longestTokenIsRead() {
        says("The longest possible token is always read.");
        value(1, "a<=b", 2, 2);
        value(1, "a>=b", 2, 2);
        value(0, "a<>b", 2, 2);
        misfit("a<=@>b");
        misfit("a<>@=b");
        misfit("a>=@=b");
        misfit("a>@<b");
        misfit("a=@<b");
        Text.refusedAtMark(1, "fun f(a in 0..@.3) = a;");
        Text.refusedAtMark(1, "fun f(a in 0..@..3) = a;");
        Text.accepted("fun f(iff in 0..3, inn in 0..3, nota in 0..3) = iff + inn + nota;");
        // not 1234 and 5, nor abcdefgh and i
        misfit("@12345");
        Text.refusedAtMark(1, "fun @abcdefghi(a in 0..3) = a;");
    }

    private static void words() {
        says("A word: a letter a to z, followed by letters a to z and digits, at most 8 bytes in all.");
        for (char sign = 'a'; sign <= 'z'; sign++) {
            Text.accepted("fun " + sign + "(x in 0..1) = x;");
            Text.accepted("fun y" + sign + "(x in 0..1) = x;");
        }
        for (char sign = '0'; sign <= '9'; sign++) {
            Text.accepted("fun y" + sign + "(x in 0..1) = x;");
            Text.refusedAtMark(1, "fun @" + sign + "y(x in 0..1) = x;");
        }
        for (char sign : new char[] {'a' - 1, 'z' + 1, 'A', 'Z', '_', 225}) {
            Text.refusedAtMark(1, "fun @" + sign + "(x in 0..1) = x;");
            Text.refusedAtMark(1, "fun y@" + sign + "(x in 0..1) = x;");
        }
        Text.accepted("fun abcdefgh(a2345678 in 0..1) = a2345678; table z9999999 of abcdefgh: 0: any;");
        Text.refusedAtMark(1, "fun @abcdefghi(a in 0..1) = a;");
        Text.refusedAtMark(1, "fun f(@a23456789 in 0..1) = 0;");
        // words that differ in one byte, or in their length alone, are different names
        Text.accepted("fun abcdefgh(a in 0..1) = a; fun abcdefgi(a in 0..1) = a; fun abcdefg(a in 0..1) = a;"
                + "fun zbcdefgh(a in 0..1) = a; fun abcd(a in 0..1) = a; fun efgh(a in 0..1) = a;");
        Text.accepted("fun f(a in 0..1, aa in 0..1, a0 in 0..1) = a + aa + a0;");
    }

    private static void numbers() {
        says("A number: 1 to 4 digits.");
        value(0, "0", 0, 0);
        value(9, "9", 0, 0);
        value(10, "10", 0, 0);
        value(999, "999", 0, 0);
        value(9999, "9999", 0, 0);
        value(7, "0007", 0, 0);
        value(0, "0000", 0, 0);
        misfit("@10000");
        misfit("@00000");
        misfit("@00007");
        Text.accepted("fun f(a in 0000..0020) = a; table t of f: 0020: = 9999;");
        Text.refusedAtMark(1, "fun f(a in 0..@00020) = a;");
        Text.refusedAtMark(1, "fun f(a in 0..1) = a; table t of f: 0: = @10000;");
    }

    private static void symbols() {
        says("Symbols: ( ) , ; : | = + - * / % < > <= >= <> ..");
        Text.accepted("fun f(a in 0..3,b in -2..2)=(a+b)-a*b/2%3;table t of f:*,*:any|0..1,0:=1|0,0:<>1|0,0:<1|"
                + "0,0:>1|0,0:<=1|0,0:>=1;");
        Text.refusedAtMark(1, "fun f(a in 0@.3) = a;");
        Text.refusedAtMark(1, "fun f(a in 0..3) = a @!= 0;");
        Text.refusedAtMark(1, "fun f(a in 0..3) = a =@= 0;");
        Text.refusedAtMark(1, "fun f(a in 0..3) = @[a];");
    }

    private static void keywords() {
        says("The keywords are: fun in if then else and or not table of any error.");
        for (String keyword : KEYWORDS) {
            Text.refusedAtMark(1, "fun @" + keyword + "(a in 0..3) = a;");
            Text.refusedAtMark(1, "fun f(@" + keyword + " in 0..3) = 1;");
            Text.refusedAtMark(1, F + "table @" + keyword + " of f: *, *: any;");
            Text.refusedAtMark(1, F + "table t of @" + keyword + ": *, *: any;");
        }
    }

    private static void namesLikeKeywords() {
        says("All other words are names.");
        for (String keyword : KEYWORDS) {
            String shorter = keyword.substring(0, keyword.length() - 1);
            for (String name : new String[] {keyword + "x", keyword + "0", "x" + keyword, shorter}) {
                Text.accepted("fun " + name + "(x in 0..1) = x; table t of " + name + ": 0: any;");
                Text.accepted("fun g(" + name + " in 0..1) = " + name + ";");
            }
        }
    }

    // ---- the grammar

    private static void oneOrNothing() {
        says("[ x ] means x or nothing");
        Text.accepted("fun f(a in 1..1) = 1; fun g(a in -1..-1) = f(1) < 1; table t of f: 1: any | 1..1: = -1;");
        Text.refusedAtMark(1, "fun f(a in 1..1) = 1 < 1 @< 1;");
        Text.refusedAtMark(1, "fun f(a in -@-1..1) = 1;");
        Text.refusedAtMark(1, "fun f(a in 1..1) = f(1)@(1);");
        Text.refusedAtMark(1, F + "table t of f: 1..1@..1, 1: any;");
    }

    private static void anyNumberOfTimesAlsoNone() {
        says("{ x } means x any number of times, also none");
        fits("a");
        fits("a or b");
        fits("a" + " or b".repeat(24));
        fits("a" + " and b".repeat(24));
        fits("a" + "+b-a".repeat(12));
        fits("a" + "*b/a%2*b".repeat(6));
    }

    private static void itemsOfProgram() {
        says("program = item { item }");
        Text.refused(1, 0, "");
        Text.refused(1, 2, " \n");
        Text.accepted(F);
        StringBuilder all = new StringBuilder();
        for (int i = 0; i < 6; i++) {
            all.append("fun f").append(i).append("(a in 0..3) = a;table t").append(i).append(" of f0: *: any;");
        }
        Text.accepted(all.toString());
        Text.refusedAtMark(1, F + "@;");
        Text.refusedAtMark(1, F.substring(0, F.length() - 1) + "@");
    }

    private static void inputsOfFunction() {
        says("\"fun\" name \"(\" input { \",\" input } \")\" \"=\" expression \";\"");
        Text.refusedAtMark(1, "fun f(@) = 1;");
        Text.refusedAtMark(1, "fun f @= 1;");
        Text.refusedAtMark(1, "fun @(a in 0..3) = 1;");
        Text.refusedAtMark(1, "fun f @a in 0..3) = 1;");
        Text.refusedAtMark(1, "fun f(a in 0..3 @= 1;");
        Text.refusedAtMark(1, "fun f(a in 0..3) @1;");
        Text.refusedAtMark(1, "fun f(a in 0..3,@) = 1;");
        Text.refusedAtMark(1, "fun f(@, a in 0..3) = 1;");
        Text.refusedAtMark(1, "fun f(a in 0..3) = @;");
        Text.accepted("fun f(a in 0..3) = 1;");
        Text.accepted("fun f(a in 0..3, b in 0..3, c in 0..3) = 1;");
    }

    private static void boundsOfInput() {
        says("input = name \"in\" whole \"..\" whole");
        Text.refusedAtMark(1, "fun f(a in 0@) = 1;");
        Text.refusedAtMark(1, "fun f(a in 0..@) = 1;");
        Text.refusedAtMark(1, "fun f(a in 0 @1) = 1;");
        Text.refusedAtMark(1, "fun f(a @0..1) = 1;");
        Text.refusedAtMark(1, "fun f(a in @..0) = 1;");
        Text.refusedAtMark(1, "fun f(a in 0..1@..2) = 1;");
        Text.refusedAtMark(1, "fun f(a in @*) = 1;");
        Text.refusedAtMark(1, "fun f(a@) = 1;");
        Text.refusedAtMark(1, "fun f(@in 0..1) = 1;");
    }

    private static void rowsOfTable() {
        says("\"table\" name \"of\" name \":\" row { \"|\" row } \";\"");
        Text.refusedAtMark(1, F + "table t of f@;");
        Text.refusedAtMark(1, F + "table @of f: *, *: any;");
        Text.refusedAtMark(1, F + "table t @f: *, *: any;");
        Text.refusedAtMark(1, F + "table t of @: *, *: any;");
        Text.refusedAtMark(1, F + "table t of f @*, *: any;");
        Text.refusedAtMark(1, F + "table t of f: *, *: any@");
        Text.refusedAtMark(1, F + "table t of f: @;");
        Text.refusedAtMark(1, F + "table t of f: @| *, *: any;");
        Text.refusedAtMark(1, F + "table t of f: *, *: any |@;");
        Text.refusedAtMark(1, F + "table t of f: *, *: any | @| *, *: any;");
        Text.accepted(F + "table t of f: *, *: any;");
    }

    private static void cellsOfRow() {
        says("row = cell { \",\" cell } \":\" result");
        Text.refusedAtMark(1, F + "table t of f: @: any;");
        Text.refusedAtMark(1, F + "table t of f: *,@: any;");
        Text.refusedAtMark(1, F + "table t of f: @, *: any;");
        Text.refusedAtMark(1, F + "table t of f: *, * @any;");
        Text.accepted("fun f(a in 0..3) = a; table t of f: 0: any;");
    }

    private static void boundsOfCell() {
        says("cell = \"*\" | whole [ \"..\" whole ]");
        Text.refusedAtMark(1, F + "table t of f: 1..@, *: any;");
        Text.refusedAtMark(1, F + "table t of f: @..1, *: any;");
        Text.refusedAtMark(1, F + "table t of f: 0..1@..2, *: any;");
        Text.refusedAtMark(1, F + "table t of f: *@..2, *: any;");
        Text.refusedAtMark(1, F + "table t of f: 0..@*, *: any;");
        Text.accepted(F + "table t of f: 1, -2..2: any | *, -2: any;");
    }

    private static void signsOfWhole() {
        says("whole = [ \"-\" ] number");
        Text.refusedAtMark(1, "fun f(a in -@-1..3) = 1;");
        Text.refusedAtMark(1, "fun f(a in @+1..3) = 1;");
        Text.refusedAtMark(1, "fun f(a in -@..3) = 1;");
        Text.refusedAtMark(1, "fun f(a in 0..3) = 1; table t of f: 0: = -@;");
        Text.accepted("fun f(a in -1..-0) = 1; table t of f: -1: = -0;");
    }

    private static void results() {
        says("result = \"any\" | \"error\" | compare whole");
        Text.refusedAtMark(1, F + "table t of f: *, *: @;");
        Text.refusedAtMark(1, F + "table t of f: *, *: @1;");
        Text.refusedAtMark(1, F + "table t of f: *, *: =@;");
        Text.refusedAtMark(1, F + "table t of f: *, *: = @error;");
        Text.refusedAtMark(1, F + "table t of f: *, *: any @any;");
        Text.refusedAtMark(1, F + "table t of f: *, *: = 1@..2;");
        Text.accepted(F + "table t of f: *, *: any | *, *: error | *, *: = 1;");
    }

    private static void levelsOfOperators() {
        says("product = factor { ( \"*\" | \"/\" | \"%\" ) factor }");
        value(-6, "-a * b", 2, 3);
        value(14, "a + b * 4", 2, 3);
        value(14, "b * 4 + a", 2, 3);
        value(3, "a + b % 2", 2, 3);
        value(2, "b - 3 / a", 2, 3);
        value(3, "not a * b", 0, 3);
        fits("-".repeat(8) + "a*(b)");
        fits("not ".repeat(8) + "a*(b)");
        says("sum = product { ( \"+\" | \"-\" ) product }");
        value(1, "5 = a + b", 2, 3);
        value(0, "a - b < a - b", 2, 3);
        value(5, "(a < b) * 4 + (a < b)", 2, 3);
        says("both = relation { \"and\" relation }");
        value(1, "a < b and b > a", 2, 3);
        value(1, "a = 9 and b or 1", 2, 3);
        value(1, "1 or a = 9 and 0", 2, 3);
        value(0, "(1 or a = 9) and 0", 2, 3);
        says("factor = number | name");
        value(0, "not a = b", 2, 3);
        value(1, "not (a = b)", 2, 3);
        value(1, "not a + 1", 2, 3);
        value(-1, "-a + 1", 2, 3);
        misfit("@");
        misfit("a + @");
        misfit("a * @* b");
        misfit("(@)");
        misfit("- @");
        misfit("not @");
    }

    private static void oneCompare() {
        says("relation = sum [ compare sum ]");
        fits("a");
        fits("a < b");
        misfit("a < b @< a");
        misfit("a = b @<> a");
        misfit("@< b");
        misfit("a <@");
        fits("(a < b) < a");
    }

    private static void argumentsOfCall() {
        says("name [ \"(\" expression { \",\" expression } \")\" ]");
        String f = "fun f(a in 0..3) = a; fun g(a in 0..3) = ";
        Text.refusedAtMark(1, f + "f(@);");
        Text.refusedAtMark(1, f + "f(a,@);");
        Text.refusedAtMark(1, f + "f(@,a);");
        Text.refusedAtMark(1, f + "f(a@;");
        Text.accepted(f + "f(a);");
    }

    private static void ifIsNoOperand() {
        says("expression = \"if\" expression \"then\" expression \"else\" expression | both { \"or\" both }");
        misfit("1 + @if a then 1 else 2");
        misfit("-@if a then 1 else 2");
        misfit("a or @if a then 1 else 2");
        misfit("if @then 1 else 2");
        misfit("if a then @else 2");
        misfit("if a then 1 else @");
        misfit("if a then 1@");
        fits("1 + (if a then 1 else 2)");
        // what stands behind else is all of it
        value(3, "if a then 3 else 4 or 5", 1, 0);
        value(1, "if a then 3 else 4 or 5", 0, 0);
        value(1, "if a then 3 or 0 else 4", 1, 0);
    }

    private static void groupingFromTheLeft() {
        says("Operators of one level group from the left.");
        value(2, "a - 4 - 2", 8, 0);
        value(6, "a - 4 + 2", 8, 0);
        value(2, "a / 4 / 2", 16, 0);
        value(8, "a / 4 * 2", 16, 0);
        value(6, "a % 4 * 2", 7, 0);
        value(1, "a * 2 % 3", 2, 0);
        value(3, "a / (b - 0) % 4 + 1 - 1", 15, 2);
    }

    // ---- depth

    private static String nested(String before, String inner, String behind, int times) {
        return before.repeat(times) + inner + behind.repeat(times);
    }

    private static void depthBegins() {
        says("Depth. It is 0 at the beginning of the expression of a function");
        Text.accepted(fun(nested("(", "a", ")", 8)) + "fun g(a in 0..1) = " + nested("(", "a", ")", 8) + ";");
        // "(" of a function's inputs is no part of its expression, nor is "-" of a bound
        Text.accepted("fun f(a in - 3 .. - 1) = " + nested("(", "a", ")", 8) + ";");
        Text.refusedAtMark(1, "fun f(a in - 3 .. - 1) = " + nested("(", "@(a)", ")", 8) + ";");
    }

    private static void depthOfBrackets() {
        says("1 greater between a \"(\" in it and its \")\"");
        fits(nested("(", "a", ")", 8) + "+" + nested("(", "a", ")", 8));
        fits(nested("(", "(a)+(a)+(a)", ")", 7));
        misfit("(a)+" + nested("(", "(a+@(a))", ")", 7));
        String f = "fun f(a in 0..1, b in 0..1) = a; fun g(a in 0..1) = ";
        Text.accepted(f + nested("(", "f(a,a)", ")", 7) + ";");
        Text.refusedAtMark(1, f + nested("(", "f@(a,a)", ")", 8) + ";");
        Text.accepted(f + nested("(", "f((a),(a))", ")", 6) + ";");
        Text.refusedAtMark(1, f + nested("(", "f(a,@(a))", ")", 7) + ";");
        Text.refusedAtMark(1, f + nested("(", "f(@(a),a)", ")", 7) + ";");
        Text.accepted(f + nested("(", "f(a,a)+(a)", ")", 7) + ";");
    }

    private static void depthOfSigns() {
        says("for the operand of a \"-\" or \"not\" in front");
        fits(nested("-", "a", "", 8));
        misfit(nested("-", "@-a", "", 8));
        fits(nested("not ", "a", "", 8));
        misfit(nested("not ", "@not a", "", 8));
        fits(nested("-not ", "a", "", 4));
        misfit(nested("-not ", "@(a)", "", 4));
        // behind the operand it is what it was, and a "-" between two operands does not count
        fits(nested("-", "a", "", 8) + "+" + nested("-", "a", "", 8));
        fits(nested("(", "a-a-a", ")", 8));
        misfit(nested("(", "a-@-a", ")", 8));
        misfit(nested("(", "@-a", ")", 8));
    }

    private static void depthOfIfs() {
        says("for all three parts of an if");
        fits(nested("if ", "1", " then 2 else 3", 8));
        misfit(nested("if ", "@if 1 then 2 else 3", " then 2 else 3", 8));
        fits(nested("if 1 then ", "2", " else 3", 8));
        misfit(nested("if 1 then ", "@if 1 then 2 else 3", " else 3", 8));
        fits(nested("if 1 then 2 else ", "3", "", 8));
        misfit(nested("if 1 then 2 else ", "@if 1 then 2 else 3", "", 8));
        misfit(nested("if ", "@(1)", " then 2 else 3", 8));
        misfit(nested("if 1 then ", "@-2", " else 3", 8));
        misfit(nested("if 1 then 2 else ", "@not 3", "", 8));
        fits("(if a then 1 else 2)+" + nested("(", "a", ")", 8));
    }

    private static void depthAtMost8() {
        says("It may be at most 8.");
        fits("(-(if (not (-a)) then 1 else 2))");
        misfit("(-(if (not (-@(a))) then 1 else 2))");
        fits(nested("(-", "a", ")", 4));
        misfit(nested("(-", "@(a)", ")", 4));
        misfit(nested("(-", "@-a", ")", 4));
        misfit(nested("(-", "@not a", ")", 4));
        fits(nested("(", "if a then b else 3", ")", 7));
        misfit(nested("(", "@if a then b else 3", ")", 8));
    }

    private static void fiftyTokens() {
        says("The expression of a function has at most 50 tokens.");
        fits(FIFTY);
        misfit("a" + "+a".repeat(24) + "+@a");
        // the tokens of a call count, all of them, but not those of what is called
        String f = fun(FIFTY) + "fun g(a in 0..1) = ";
        Text.accepted(f + "f(a,a)" + "+a".repeat(22) + ";");
        Text.refusedAtMark(1, f + "f(a,a)" + "+a".repeat(22) + "@+a;");
        Text.accepted(f + "(f(a,a))" + "+a".repeat(21) + ";");
        // each function has its own 50
        Text.accepted(fun(FIFTY) + fun(FIFTY).replace("fun f", "fun g"));
    }

    // ---- errors of form

    private static void firstMisfit() {
        says("Error 1: the first token with which the tokens so far are not the beginning of a program.");
        Text.refusedAtMark(1, "@a");
        Text.refusedAtMark(1, "@()");
        Text.refusedAtMark(1, "fun f(a in 0..3) = @) ) ;;; 12345");
        Text.refusedAtMark(1, "fun @12345(abcdefghi in 0..3) = !;");
        Text.refusedAtMark(1, "fun f(a in 99..3) = @; fun f");
    }

    private static void noTokenBegins() {
        says("a byte with which no token begins");
        String begins = "() ,;:|=+-*/%<>abcdefghijklmnopqrstuvwxyz0123456789\n";
        for (char sign = 0; sign < 256; sign++) {
            if (begins.indexOf(sign) < 0) {
                Text.refused(1, 18, "fun f(a in 0..3) =" + sign + "a;");
                Text.refused(1, F.length(), F + sign);
            }
        }
    }

    private static void tooLong() {
        says("a word or number that is too long");
        misfit("@abcdefghi");
        misfit("a + @abcdefghi(1)");
        misfit("@aaaaaaaaaaaaaaaaaaaaaaaaaaaaaa");
        misfit("@12345");
        misfit("@99999999999999999999999999999999");
        misfit("@00000000000000000000000000000001");
        Text.refusedAtMark(1, "@functions f(a in 0..3) = a;");
        Text.refusedAtMark(1, "@" + "x".repeat(1500));
        Text.refusedAtMark(1, "@" + "1".repeat(1500));
        Text.refusedAtMark(1, "fun f(a in -@00001..3) = a;");
        Text.refusedAtMark(1, F + "table @abcdefghi of f: *, *: any;");
        Text.refusedAtMark(1, F + "table t of @abcdefghi: *, *: any;");
    }

    private static void endOfTape() {
        says("the end of the tape (at its length)");
        String[] begun = {
            "", "fun", "fun f", "fun f(", "fun f(a", "fun f(a in", "fun f(a in -", "fun f(a in 0", "fun f(a in 0..",
            "fun f(a in 0..3", "fun f(a in 0..3,", "fun f(a in 0..3)", "fun f(a in 0..3)=", "fun f(a in 0..3)=a",
            "fun f(a in 0..3)=a+", "fun f(a in 0..3)=(a", "fun f(a in 0..3)=f(a", "fun f(a in 0..3)=if a",
            F + "table", F + "table t of", F + "table t of f:", F + "table t of f:0", F + "table t of f:0..",
            F + "table t of f:0:", F + "table t of f:0:<", F + "table t of f:0:any", F + "table t of f:0:any|"
        };
        for (String text : begun) {
            Text.refused(1, text.length(), text);
            Text.refused(1, text.length() + 3, text + " \n ");
        }
        Text.refused(1, 1500, "fun f" + " ".repeat(1495));
        Text.refused(1, 1500, " ".repeat(1500));
    }

    private static void depthWouldBeNine() {
        says("the \"(\", \"-\", \"not\" or if behind which the depth would be 9");
        misfit(nested("(", "@(a)", ")", 8));
        misfit(nested("(", "f@(a)", ")", 8));
        misfit(nested("(", "@-a", ")", 8));
        misfit(nested("(", "@not a", ")", 8));
        misfit(nested("(", "@if a then 1 else 2", ")", 8));
        // at the token that begins the part, whatever stands behind it
        misfit(nested("(", "@(!", "", 8));
        misfit(nested("(", "@not 12345", "", 8));
        misfit(nested("(", "@if ;", "", 8));
    }

    private static void fiftyFirstToken() {
        says("the token that would be the 51st of an expression");
        misfit(FIFTY + "@+a");
        misfit(FIFTY + " @and a");
        misfit("a" + "+a".repeat(24) + "+@a");
        misfit("a" + "+a".repeat(24) + "+@(a)");
        misfit("a" + "+a".repeat(23) + "+(a@)");
        misfit("a" + "+a".repeat(23) + "+(a@+a)");
        misfit("-a" + "+a".repeat(22) + "+(a)@+a");
        misfit("if a then 1 else a" + "+a".repeat(22) + "@+a");
        misfit("-a" + "+a".repeat(23) + "+-@a");
        misfit("-a" + "+a".repeat(23) + "+not @a");
        Text.refusedAtMark(1, fun("a") + "fun g(a in 0..1) = f(a" + "+a".repeat(22) + ",-a@);");
    }

    private static void positionOfFirstByte() {
        says("The position is that of its first byte.");
        misfit("a + @<= b");
        misfit("1 @2222");
        misfit("a @table");
        Text.refused(1, 7, "fun f( \u00e4\u00e4\u00e4 in 0..3) = a;");
        Text.refused(1, 6, "fun f(abcdefghijkl in 0..3) = a;");
        Text.refused(1, 19, "fun f(a in 0..3) = 1234567;");
        Text.refused(1, 19, "fun f(a in 0..3) = .. a;");
    }
}
