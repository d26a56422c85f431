/** Promises 1 to 6, and what the document says of the language. */
final class ProgramTests {
    private static final String F = "fun f(a in 0..3, b in -2..2) = a + b;";

    private ProgramTests() {
    }

    static void run() {
        newObject();
        feed();
        trim();
        compile();
        errorAt();
        count();
        tokens();
        grammar();
        depth();
        tokenLimit();
        names();
        doubles();
        limits();
        sizes();
        bounds();
        cells();
        numbersOfArguments();
        orderOfErrors();
        fullTape();
    }

    private static String repeated(String text, int times) {
        return text.repeat(times);
    }

    private static void accepted(String text) {
        Text.accepted(text);
    }

    private static void acceptedBody(String body) {
        accepted("fun f(a in 0..3, b in -2..2) = " + body + ";");
    }

    /** Checks an error of form in an expression, at the place that a "@" marks. */
    private static void misfitInBody(String body) {
        Text.refusedAtMark(1, "fun f(a in 0..3, b in -2..2) = " + body + ";");
    }

    private static void newObject() {
        CaseTables bench = new CaseTables();
        for (int what = 0; what <= 4; what++) {
            int asked = what;
            Check.same("new: count " + what, 0, () -> bench.count(asked));
        }
        Check.same("new: errorAt", -1, bench::errorAt);
        long sum = 373;
        for (int i = 0; i < 5; i++) {
            sum *= 31;
        }
        Check.same("new: digest", sum, bench::digest);
        Check.noIndex("new: fun", () -> bench.fun(0, 0));
        Check.noIndex("new: call", () -> bench.call(0, 0, 0, 0));
        Check.noIndex("new: callChanged", () -> bench.callChanged(0, 0, 0, 0, 0));
        Check.noIndex("new: inputOf", () -> bench.inputOf(0, 0, 0));
        Check.noIndex("new: propose", () -> bench.propose(0));
        Check.noIndex("new: table", () -> bench.table(0, 0));
        Check.noIndex("new: caseOf", () -> bench.caseOf(0, 0, 0));
        Check.noIndex("new: holds", () -> bench.holds(0, 0));
        Check.noIndex("new: taken", () -> bench.taken(0, true));
        Check.noIndex("new: finds", () -> bench.finds(0, 0));
        Check.noIndex("new: score", () -> bench.score(0));
        Check.noIndex("new: grow", () -> bench.grow(0));
        Check.noIndex("new: shorten", () -> bench.shorten(0));
        Check.same("new: trim", 0, () -> bench.trim(0));
    }

    private static void feed() {
        CaseTables bench = new CaseTables();
        for (int times = 1; times <= 75; times++) {
            int due = 20 * times;
            Check.same("feed " + times, due, () -> bench.feed(0x20202020, 0x20202020, 0x20202020, 0x20202020, 0));
        }
        Check.noState("feed behind 1500", () -> bench.feed(0, 0, 0, 0, 0));
        Check.same("a refused feed changes nothing", 1500, () -> bench.count(4));
        bench.trim(1481);
        Check.noState("feed that would make 1501", () -> bench.feed(0, 0, 0, 0, 0));
        bench.trim(1480);
        Check.same("feed that makes 1500", 1500, () -> bench.feed(0, 0, 0, 0, 0));

        CaseTables bytes = new CaseTables();
        bytes.feed(0x66756e20, 0x6628610a, 0x696e2030, 0x2e2e3329, 0x3d20613b);
        Check.same("the highest byte comes first", 0, bytes::compile);
        Check.same("all twenty bytes come in", 3L, () -> bytes.call(0, 3, 0, 0));
        bytes.feed(-1, 0, 0, 0, 0);
        Check.same("a byte of 255", 1, bytes::compile);
        Check.same("a byte of 255 is where it is", 0, bytes::errorAt);
    }

    private static void trim() {
        CaseTables bench = new CaseTables();
        Check.noArgument("trim of an empty tape", () -> bench.trim(1));
        Text.feed(bench, F + "x");
        int length = F.length() + 1;
        Check.noArgument("trim to -1", () -> bench.trim(-1));
        Check.noArgument("trim to too much", () -> bench.trim(length + 1));
        Check.noArgument("trim to the most", () -> bench.trim(Integer.MAX_VALUE));
        Check.noArgument("trim to the least", () -> bench.trim(Integer.MIN_VALUE));
        Check.same("a refused trim changes nothing", length, () -> bench.count(4));
        Check.same("trim to all", length, () -> bench.trim(length));
        Check.same("trim by one", length - 1, () -> bench.trim(length - 1));
        Check.same("trim keeps the first bytes", 0, bench::compile);
        bench.feed(0, 0, 0, 0, 0);
        Check.same("trim to nothing", 0, () -> bench.trim(0));
        Text.feed(bench, F);
        Check.same("what is fed behind a trim stands where it ended", 0, bench::compile);
    }

    private static void compile() {
        CaseTables bench = Text.compiled(F);
        Check.same("the tape is empty behind compile", 0, () -> bench.count(4));
        Check.same("the program is there", 1, () -> bench.count(0));
        Check.same("an empty tape is no program", 1, bench::compile);
        Check.same("and its error is at 0", 0, bench::errorAt);
        Check.same("the program is gone behind an error", 0, () -> bench.count(0));
        Text.feed(bench, "fun g(a in 1..1) = if a then 1 else 2; table t of g: *: any; table u of g: 1: = 2;");
        Check.same("compile again", 0, bench::compile);
        Text.feed(bench, "fun h(x in 5..9) = x;");
        Check.same("and again", 0, bench::compile);
        Check.same("functions of the new program", 1, () -> bench.count(0));
        Check.same("tables of the new program", 0, () -> bench.count(1));
        Check.same("ifs of the new program", 0, () -> bench.count(2));
        Check.same("cases of the new program", 0, () -> bench.count(3));
        Check.same("ranges of the new program", 5, () -> bench.fun(0, 3));
        Text.feed(bench, "fun h(x in 5..9) = y;");
        Check.same("an error of meaning", 2, bench::compile);
        Check.same("the tape is empty behind an error too", 0, () -> bench.count(4));
        Check.noIndex("no function behind an error", () -> bench.call(0, 1, 1, 1));
    }

    private static void errorAt() {
        CaseTables bench = new CaseTables();
        Text.feed(bench, "fun f(x in 0..1) = y;");
        Check.same("-1 ahead of the first compile", -1, bench::errorAt);
        bench.compile();
        Check.same("of the latest compile", 19, bench::errorAt);
        Text.feed(bench, F);
        Check.same("still of the latest compile", 19, bench::errorAt);
        bench.compile();
        Check.same("-1 behind one without an error", -1, bench::errorAt);
    }

    private static void count() {
        CaseTables bench = Text.compiled(F + "fun g(a in 0..9) = if a then f(if a > 3 then 3 else a, 1) else 7;"
                + "table t of f: 0, *: any | 0..1, 0..1: = 7; table u of g: *: any; table v of g: 1: any;");
        Text.feed(bench, "abc");
        int[] due = {2, 3, 2, 5 + 4 + 10 + 1, 3};
        for (int what = 0; what <= 4; what++) {
            int asked = what;
            Check.same("count " + what, due[what], () -> bench.count(asked));
        }
        Check.noIndex("count -1", () -> bench.count(-1));
        Check.noIndex("count 5", () -> bench.count(5));
        Check.noIndex("count of the most", () -> bench.count(Integer.MAX_VALUE));
    }

    private static void tokens() {
        accepted(" \n fun\nf ( a in 0 .. 3 )\n=\n a ;\n\n ");
        accepted("fun f(a in 0..3)=a;table t of f:*:any|0:=-3|1:<>0|2:<1|3:>1|0..1:<=2|1 ..2:>=1|3:error;");
        accepted("fun za(z in 0..9)=z;fun az(az9 in 0..9)=za(az9);");
        accepted("fun abcdefgh(a1b2c3d4 in 0001..0002)=a1b2c3d4;");
        accepted("fun f(a in 0..3)=if a<1then 2else 9999;");
        accepted("fun f(a in 0..3)=a-- -a;");
        accepted("fun funny(iff in 0..3, inn in 0..1, e in 0..0)=iff+inn*e;fun not0(a in 0..1)=funny(a,a,a);");
        Text.refusedAtMark(1, "fun @abcdefghi(a in 0..3) = a;");
        Text.refusedAtMark(1, "fun f(a in 0..@00003) = a;");
        Text.refusedAtMark(1, "fun f(a in 0@.3) = a;");
        Text.refusedAtMark(1, "fun f(a in 0..@.3) = a;");
        Text.refusedAtMark(1, "fun f(a in 0@. .3) = a;");
        Text.refusedAtMark(1, "fun f(a in 0..3) = @\ta;");
        Text.refusedAtMark(1, "fun f(a in 0..3)@\r = a;");
        Text.refusedAtMark(1, "fun @F(a in 0..3) = a;");
        Text.refusedAtMark(1, "fun f(a in 0..3) = a @! 0;");
        Text.refusedAtMark(1, "fun f(a in 0..3) = a @\u00e4 0;");
        Text.refusedAtMark(1, "fun f(a in 0..3) = a @\0;");
        Text.refusedAtMark(1, "@Fun f(a in 0..3) = a;");
        Text.refusedAtMark(1, "@funf(a in 0..3) = a;");
        Text.refusedAtMark(1, "fun f(@5in 0..3) = a;");
        Text.refusedAtMark(1, "fun f(a in 0..3) = a < @> 0;");
        Text.refusedAtMark(1, "fun f(a in 0..3) = a <=@> 0;");
        Text.refusedAtMark(1, "fun f(a in 0..3) = a <>@= 0;");
        Text.refusedAtMark(1, "fun f(a in 0..3) = a =@< 0;");
        Text.refusedAtMark(1, "fun f(a in 0..3) = a >@< 0;");
        Text.refusedAtMark(1, "fun f(a in 0..3) = a > @= 0;");
        Text.refusedAtMark(1, "fun f(a in 0..3) = 12@ab;");
        Text.refusedAtMark(1, "fun f(a in 0..3) = a @a;");
        Text.refusedAtMark(1, "fun f(a in 0..3) = 1 @2;");
        // the first of several errors of form, and one behind an error of meaning
        Text.refusedAtMark(1, "fun f(a in 0..3) = @abcdefghi 12345 !;");
        Text.refusedAtMark(1, "fun f(a in 0..99) = q  @");
        Text.refusedAtMark(1, "fun f(a in 0..99) = q;  @table2");
    }

    private static void grammar() {
        for (String keyword : new String[] {
            "fun", "in", "if", "then", "else", "and", "or", "not", "table", "of", "any", "error"
        }) {
            Text.refusedAtMark(1, "fun @" + keyword + "(a in 0..3) = a;");
            Text.refusedAtMark(1, "fun f(@" + keyword + " in 0..3) = a;");
            Text.refusedAtMark(1, F + "table @" + keyword + " of f: *, *: any;");
            Text.refusedAtMark(1, F + "table t of @" + keyword + ": *, *: any;");
        }
        Text.refusedAtMark(1, "@");
        Text.refusedAtMark(1, " \n @");
        Text.refusedAtMark(1, "@;" + F);
        Text.refusedAtMark(1, F + "@;");
        Text.refusedAtMark(1, F + " @a");
        Text.refusedAtMark(1, "fun f @a in 0..3) = a;");
        Text.refusedAtMark(1, "fun f(@) = 1;");
        Text.refusedAtMark(1, "fun f(a in 0..3,@) = 1;");
        Text.refusedAtMark(1, "fun f(a @0..3) = 1;");
        Text.refusedAtMark(1, "fun f(a in @..3) = 1;");
        Text.refusedAtMark(1, "fun f(a in 0@) = 1;");
        Text.refusedAtMark(1, "fun f(a in - @-1..3) = 1;");
        Text.refusedAtMark(1, "fun f(a in @+1..3) = 1;");
        Text.refusedAtMark(1, "fun f(a in @*..3) = 1;");
        Text.refusedAtMark(1, "fun f(a in 0..3 @b in 0..3) = 1;");
        Text.refusedAtMark(1, "fun f(a in 0..3) @: 1;");
        Text.refusedAtMark(1, "fun f(a in 0..3) = @;");
        Text.refusedAtMark(1, "fun f(a in 0..3) = 1@");
        Text.refusedAtMark(1, "fun f(a in 0..3) = 1  @");
        Text.refusedAtMark(1, "fun f(a in 0..3) = 1 @fun g(a in 0..1) = 2;");
        Text.refusedAtMark(1, F + "table t @f: *, *: any;");
        Text.refusedAtMark(1, F + "table t of f @*, *: any;");
        Text.refusedAtMark(1, F + "table t of f: @: any;");
        Text.refusedAtMark(1, F + "table t of f: *, @: any;");
        Text.refusedAtMark(1, F + "table t of f: * @*: any;");
        Text.refusedAtMark(1, F + "table t of f: *@..1, *: any;");
        Text.refusedAtMark(1, F + "table t of f: 0..@*, *: any;");
        Text.refusedAtMark(1, F + "table t of f: @a, *: any;");
        Text.refusedAtMark(1, F + "table t of f: *, * @any;");
        Text.refusedAtMark(1, F + "table t of f: *, *: @;");
        Text.refusedAtMark(1, F + "table t of f: *, *: @3;");
        Text.refusedAtMark(1, F + "table t of f: *, *: = @any;");
        Text.refusedAtMark(1, F + "table t of f: *, *: @+ 3;");
        Text.refusedAtMark(1, F + "table t of f: *, *: any @3;");
        Text.refusedAtMark(1, F + "table t of f: *, *: any | @;");
        Text.refusedAtMark(1, F + "table t of f: *, *: any@, *, *: any;");
        acceptedBody("a or b and a = b + a * b");
        acceptedBody("if a = 1 or b then if a then 1 else 2 else if b then 3 else 4 + a and b");
        acceptedBody("(a < b) < a");
        acceptedBody("not - not -a");
        misfitInBody("a < b @< a");
        misfitInBody("a = b @<> a");
        misfitInBody("a + @if a then 1 else 2");
        misfitInBody("not @if a then 1 else 2");
        misfitInBody("a and @or b");
        misfitInBody("a @not b");
        misfitInBody("@+a");
        misfitInBody("@*");
        misfitInBody("a *@/ b");
        misfitInBody("(@)");
        misfitInBody("(a@");
        misfitInBody("(a@, b)");
        misfitInBody("a@)");
        misfitInBody("f(@)");
        misfitInBody("f(a,@)");
        misfitInBody("f(a @b)");
        misfitInBody("3@(a)");
        misfitInBody("if a @1");
        misfitInBody("if a then 1@");
        misfitInBody("if a then 1 else@");
        misfitInBody("if a @else 1");
        misfitInBody("@then");
        misfitInBody("a @.. b");
        misfitInBody("a@, b");
    }

    private static void depth() {
        acceptedBody(repeated("(", 8) + "a" + repeated(")", 8));
        misfitInBody(repeated("(", 8) + "@(a" + repeated(")", 9));
        acceptedBody(repeated("-", 8) + "a");
        misfitInBody(repeated("-", 8) + "@-a");
        acceptedBody(repeated("not ", 8) + "a");
        misfitInBody(repeated("not ", 8) + "@not a");
        acceptedBody(repeated("if 1 then 2 else ", 8) + "3");
        misfitInBody(repeated("if 1 then 2 else ", 8) + "@if 1 then 2 else 3");
        acceptedBody(repeated("if ", 8) + "1" + repeated(" then 2 else 3", 8));
        misfitInBody(repeated("if ", 8) + "@if 1" + repeated(" then 2 else 3", 9));
        acceptedBody(repeated("if 1 then ", 8) + "1" + repeated(" else 3", 8));
        misfitInBody(repeated("if 1 then ", 8) + "@if 1 then 1" + repeated(" else 3", 9));
        accepted("fun f(a in 0..1) = a; fun g(a in 0..1) = " + repeated("(", 7) + "f(a)" + repeated(")", 7) + ";");
        misfitInBody(repeated("(", 8) + "f@(a)" + repeated(")", 8));
        misfitInBody(repeated("(", 7) + "f(@(a))" + repeated(")", 7));
        misfitInBody(repeated("(", 7) + "f(a, @(a))" + repeated(")", 7));
        accepted("fun f(a in 0..1, b in 0..1) = a; fun g(a in 0..1) = " + repeated("(", 6) + "f((a), (a))"
                + repeated(")", 6) + ";");
        misfitInBody(repeated("(-", 4) + "@(a)" + repeated(")", 4));
        misfitInBody(repeated("(-", 4) + "@-a" + repeated(")", 4));
        misfitInBody(repeated("(-", 4) + "@if a then 1 else 2" + repeated(")", 4));
        // behind a bracket the depth is what it was ahead of it
        acceptedBody(repeated("(", 8) + "a" + repeated(")", 8) + "+" + repeated("(", 8) + "a" + repeated(")", 8));
        acceptedBody("-a + -b + - - a + not not - - - - - -a");
        acceptedBody("(if a then 1 else 2) + " + repeated("(", 8) + "a" + repeated(")", 8));
    }

    private static void tokenLimit() {
        acceptedBody("-a" + repeated("+a", 24));
        misfitInBody("-a" + repeated("+a", 24) + "@+a");
        misfitInBody("a" + repeated("+a", 24) + "+@a");
        misfitInBody("a" + repeated("+a", 24) + "+@,");
        misfitInBody("a" + repeated("+a", 23) + "+(a@+a)");
        misfitInBody("a" + repeated("+a", 23) + "+(a@)");
        acceptedBody("a" + repeated("+a", 22) + "+(-a)");
        accepted("fun f(a in 0..1, b in 0..1) = a; fun g(a in 0..1) = f(a, a)" + repeated("+a", 22) + ";");
        Text.refusedAtMark(1, "fun f(a in 0..1, b in 0..1) = a; fun g(a in 0..1) = f(a, a)" + repeated("+a", 22)
                + "@+a;");
        // the expression of the next function begins anew
        accepted("fun f(a in 0..1) = -a" + repeated("+a", 24) + "; fun g(a in 0..1) = -a" + repeated("+a", 24) + ";");
    }

    private static void names() {
        Text.refusedAtMark(2, "fun f(a in 0..3) = @b;");
        Text.refusedAtMark(2, "fun f(a in 0..3) = a + @f;");
        Text.refusedAtMark(2, "fun f(a in 0..3) = @f(a);");
        Text.refusedAtMark(2, "fun f(a in 0..3) = @a(a);");
        Text.refusedAtMark(2, "fun f(a in 0..3) = @g(a); fun g(a in 0..3) = a;");
        Text.refusedAtMark(2, "fun f(a in 0..3) = a; fun g(b in 0..3) = f(@a);");
        Text.refusedAtMark(2, "fun f(a in 0..3) = @g(x);");
        Text.refusedAtMark(2, "fun f(a in 0..3) = a; table t of f: *: any; fun g(b in 0..3) = @t(b);");
        Text.refusedAtMark(2, F + "table t of @g: *, *: any;");
        Text.refusedAtMark(2, F + "table t of @t: *, *: any;");
        Text.refusedAtMark(2, F + "table t of f: *, *: any; table u of @t: *, *: any;");
        Text.refusedAtMark(2, F + "table t of @g: *, *: any; fun g(a in 0..1) = a;");
        Text.refusedAtMark(2, F + "table t of @a: *, *: any;");
        accepted("fun f(f in 0..3) = f; fun g(f in 0..3) = f(f) + f;");
    }

    private static void doubles() {
        Text.refusedAtMark(3, F + "fun @f(a in 0..1) = a;");
        Text.refusedAtMark(3, F + "table @f of f: *, *: any;");
        Text.refusedAtMark(3, F + "table t of f: *, *: any; table @t of f: *, *: any;");
        Text.refusedAtMark(3, F + "table t of f: *, *: any; fun @t(a in 0..1) = a;");
        Text.refusedAtMark(3, "fun f(a in 0..3, @a in 0..3) = a;");
        Text.refusedAtMark(3, "fun f(a in 0..3, b in 0..1, @a in 0..3) = a;");
        accepted(F + "fun a(f in 0..1, a in 0..1) = a; table b of a: 0, 0: any;");
    }

    private static String manyFuns(int number) {
        StringBuilder all = new StringBuilder();
        for (int i = 0; i < number; i++) {
            all.append("fun f").append(i).append("(a in 0..3) = a;");
        }
        return all.toString();
    }

    private static String manyTables(int number) {
        StringBuilder all = new StringBuilder(manyFuns(1));
        for (int i = 0; i < number; i++) {
            all.append("table t").append(i).append(" of f0: *: any;");
        }
        return all.toString();
    }

    private static void limits() {
        accepted(manyFuns(6));
        Text.refusedAtMark(4, manyFuns(6) + "@fun f0(a in 0..3) = b;");
        Text.refusedAtMark(4, manyFuns(6) + " @fun g(a in 0..3) = a; fun h(a in 0..3) = a; table t of g: *: any;");
        accepted(manyTables(6));
        Text.refusedAtMark(4, manyTables(6) + "@table t0 of q: 7: any;");
        accepted("fun f(a in 0..3, b in 0..3, c in 0..3) = a;");
        Text.refusedAtMark(4, "fun f(a in 0..3, b in 0..3, c in 0..3, @a in 99..3) = a;");
        String rows = "0: any" + repeated(" | 0: any", 11);
        accepted("fun f(a in 0..3) = a; table t of f: " + rows + ";");
        Text.refusedAtMark(4, "fun f(a in 0..3) = a; table t of f: " + rows + " | @77, 1: any;");
        Text.refusedAtMark(4, "fun f(a in 0..3) = a; table t of f: " + rows + " | @-1: any | 0: any;");
        String wide = "fun f(a in -20..20, b in -20..20, c in -20..20) = a;";
        accepted(wide + "table t of f: 1..10, 1..10, 0: any;");
        accepted(wide + "table t of f: 1..9, 1..11, 0: any | 0, 0, 0: any;");
        Text.refusedAtMark(4, wide + "table t of f: 1..10, 1..10, 0: any | @0, 0, 0: any | 99, 0, 0: any;");
        Text.refusedAtMark(4, wide + "table t of f: 1..9, 1..11, 0: any | @0, 0, 0..1: any;");
        Text.refusedAtMark(4, wide + "table t of f: @*, *, *: any;");
        Text.refusedAtMark(6, wide + "table t of f: @*, *, *, *: any;");
        Text.refusedAtMark(5, wide + "table t of f: *, *, @21: any;");
        // the sum is each table's own
        accepted(wide + "table t of f: 1..10, 1..10, 0: any; table u of f: 1..10, 1..10, 0: any;");
    }

    private static void sizes() {
        // f has the size 45, four calls of it with what is between them are 199
        String f = "fun f(a in 0..1) = a" + repeated("+a", 22) + ";";
        String four = "f(a)+f(a)+f(a)+f(a)";
        accepted(f + "fun g(a in 0..1) = " + four + ";");
        accepted(f + "fun g(a in 0..1) = -" + four + ";");
        Text.refusedAtMark(4, f + "fun @g(a in 0..1) = - -" + four + ";");
        Text.refusedAtMark(4, f + "fun @g(a in 0..1) = - -" + four + "; fun g(x in 0..99) = q;");
        // what is called within a call counts too, each time: 45 + 4, twice 49 + 9, thrice 107 + 14
        String g = f + "fun g(a in 0..1) = f(a); fun h(a in 0..1) = g(a) + g(a);";
        accepted(g + "fun i(a in 0..1) = h(a) + f(a);");
        Text.refusedAtMark(4, g + "fun @i(a in 0..1) = h(a) + h(a);");
        // looked at behind the expression
        Text.refusedAtMark(2, f + "fun g(a in 0..1) = - -" + four + " + @b;");
        Text.refusedAtMark(6, f + "fun g(a in 0..1) = - -" + four + " + @f(a, a);");
        // a call within an argument counts like any other
        Text.refusedAtMark(4, f + "fun @g(a in 0..1) = f(f(f(f(f(a)))));");
        accepted(f + "fun g(a in 0..1) = f(f(f(f(a))));");
    }

    private static void bounds() {
        accepted("fun f(a in -20..-20, b in 20..20, c in -20..20) = a;");
        accepted("fun f(a in - 3 .. - 2, b in -0..0) = a;");
        Text.refusedAtMark(5, "fun f(a in -@21..3) = a;");
        Text.refusedAtMark(5, "fun f(a in - @21..3) = a;");
        Text.refusedAtMark(5, "fun f(a in @21..30) = a;");
        Text.refusedAtMark(5, "fun f(a in @9999..3) = a;");
        Text.refusedAtMark(5, "fun f(a in 0..@21) = a;");
        Text.refusedAtMark(5, "fun f(a in -20..-@21) = a;");
        Text.refusedAtMark(5, "fun f(a in 3..@2) = a;");
        Text.refusedAtMark(5, "fun f(a in 3..-@4) = a;");
        Text.refusedAtMark(5, "fun f(a in -3..-@4) = a;");
        Text.refusedAtMark(5, "fun f(a in 0..3, b in 0..@99) = c;");
    }

    private static void cells() {
        String f = "fun f(a in -3..5, b in 2..4) = a + b; table t of f: ";
        accepted(f + "-3, 2: any | 5, 4: any | -3..5, 2..4: any | -3 .. - 3, 3..3: any;");
        accepted(f + "0, 2: = 9999 | 0, 2: < -9999;");
        Text.refusedAtMark(5, f + "-@4, 2: any;");
        Text.refusedAtMark(5, f + "@6, 2: any;");
        Text.refusedAtMark(5, f + "*, @1: any;");
        Text.refusedAtMark(5, f + "*, @5: any;");
        Text.refusedAtMark(5, f + "*, -@2: any;");
        Text.refusedAtMark(5, f + "-@4..9, 2: any;");
        Text.refusedAtMark(5, f + "-3..@6, 2: any;");
        Text.refusedAtMark(5, f + "2..@1, 2: any;");
        Text.refusedAtMark(5, f + "0..-@1, 2: any;");
        Text.refusedAtMark(5, f + "*, 2..@5: any;");
        Text.refusedAtMark(5, f + "*, * : any | *, @0: any;");
        // ahead of the number of cells, but not in those that are too many
        Text.refusedAtMark(5, f + "@9: any;");
        Text.refusedAtMark(6, f + "@0, 2, 77: any;");
        Text.refusedAtMark(6, f + "@0, 2, 3..1: any;");
        Text.refusedAtMark(5, f + "0, @9, 77: any;");
    }

    private static void numbersOfArguments() {
        Text.refusedAtMark(6, F + "fun g(a in 0..1) = @f(a);");
        Text.refusedAtMark(6, F + "fun g(a in 0..1) = a + @f(a, a, a);");
        Text.refusedAtMark(2, F + "fun g(a in 0..1) = f(@x);");
        Text.refusedAtMark(2, F + "fun g(a in 0..1) = f(a, a, @x(a));");
        Text.refusedAtMark(6, F + "fun g(a in 0..1) = f(@f(a), x);");
        Text.refusedAtMark(6, F + "table t of f: @*: any;");
        Text.refusedAtMark(6, F + "table t of f: @*, *, *: any;");
        Text.refusedAtMark(6, F + "table t of f: @0: any;");
        Text.refusedAtMark(6, "fun f(a in -3..3) = a; table t of f: *: any | @-1, 2: any;");
        accepted(F + "fun g(a in 0..1) = f(f(a, a), a);");
    }

    private static void orderOfErrors() {
        // item by item, in each from left to right
        Text.refusedAtMark(5, "fun f(a in 0..@21) = q; fun f(a in 0..1) = a;");
        Text.refusedAtMark(3, F + "fun @f(a in 0..99, a in 0..1) = q;");
        Text.refusedAtMark(3, "fun f(a in 0..3, @a in 0..99) = q;");
        Text.refusedAtMark(2, F + "table t of @q: 99: any;");
        Text.refusedAtMark(3, F + "table @f of q: 99: any;");
        // an error of form goes ahead, wherever it stands
        Text.refusedAtMark(1, "fun f(a in 0..99) = q; fun @");
        Text.refusedAtMark(1, manyFuns(7) + "@x");
        Text.refusedAtMark(1, manyTables(7) + "table t of f0: *: @x;");
    }

    private static void fullTape() {
        String row = "*:any";
        String begin = "fun f(a in 0..9)=a;table t of f:" + row + repeated("|" + row, 9) + ";";
        CaseTables bench = new CaseTables();
        Text.feed(bench, begin + repeated(" ", 1500 - begin.length()));
        Check.same("a program with blanks up to the end", 0, bench::compile);
        Text.feed(bench, repeated(" ", 1500 - begin.length()) + begin);
        Check.same("a program at the end", 0, bench::compile);
        Check.same("its cases", 100, () -> bench.count(3));
        Text.feed(bench, repeated(" ", 1499 - begin.length()) + begin + "x");
        Check.same("one byte too much", 1, bench::compile);
        Check.same("at the end", 1499, bench::errorAt);
        String cells = "fun f(a in 0..9)=a;table t of f:" + repeated("*,", 734);
        Text.feed(bench, cells);
        Check.same("as many tokens as a tape can hold", 1500, () -> bench.count(4));
        Check.same("and no end of them", 1, bench::compile);
        Check.same("where the tape ends", 1500, bench::errorAt);
        Text.feed(bench, cells.substring(0, 1493) + ":any;");
        Check.same("cells that are too many", 6, bench::compile);
        Check.same("at the row", 32, bench::errorAt);
    }
}
