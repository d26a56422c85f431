import java.util.function.Consumer;

/** The boundaries of the promises 1 to 6, and of what is said of all calls, each by the words that name it. */
final class ProgramEdges {
    private static final int MOST = Integer.MAX_VALUE;
    private static final int LEAST = Integer.MIN_VALUE;
    private static final String F = "fun f(a in 0..3, b in -2..2) = a + b;";

    private ProgramEdges() {
    }

    static void run() {
        Doc.each(
            ProgramEdges::newObject, ProgramEdges::feedAppends, ProgramEdges::feedReturns, ProgramEdges::feedThrows,
            ProgramEdges::trimKeepsFirst, ProgramEdges::trimReturns, ProgramEdges::trimThrows,
            ProgramEdges::programIsGone, ProgramEdges::compileReturns, ProgramEdges::errorAtWithout,
            ProgramEdges::countThrows, ProgramEdges::countsNothing, ProgramEdges::manyCalls,
            ProgramEdges::refusedChangesNothing, ProgramEdges::firstNamedIsThrown);
    }

    // ---- promises 1 to 6

    private static void newObject() {
        Doc.says("Promise 1", "Creates a bench without a program, with an empty tape.");
        CaseTables bench = new CaseTables();
        for (int i = 0; i <= 4; i++) {
            int what = i;
            Check.same("count(" + i + ")", 0, () -> bench.count(what));
        }
        Check.noIndex("fun", () -> bench.fun(0, 0));
        Check.noIndex("call", () -> bench.call(0, 0, 0, 0));
        Check.noIndex("callChanged", () -> bench.callChanged(0, 0, 0, 0, 0));
        Check.noIndex("inputOf", () -> bench.inputOf(0, 0, 0));
        Check.noIndex("propose", () -> bench.propose(0));
        Check.noIndex("table", () -> bench.table(0, 0));
        Check.noIndex("caseOf", () -> bench.caseOf(0, 0, 0));
        Check.noIndex("holds", () -> bench.holds(0, 0));
        Check.noIndex("taken", () -> bench.taken(0, true));
        Check.noIndex("finds", () -> bench.finds(0, 0));
        Check.noIndex("score", () -> bench.score(0));
        Check.noIndex("grow", () -> bench.grow(0));
        Check.noIndex("shorten", () -> bench.shorten(0));
        Check.same("trim(0)", 0, () -> bench.trim(0));
        // nothing of another object is in it
        Text.compiled(F);
        CaseTables second = new CaseTables();
        Check.same("a second object", 0, () -> second.count(0));
    }

    private static void feedAppends() {
        Doc.says("Promise 2", "Appends twenty bytes to the tape: the four bytes of each number, the highest one "
                + "first.");
        CaseTables bench = new CaseTables();
        bench.feed(0x66756e20, 0x6628610a, 0x696e2030, 0x2e2e3329, 0x3d20613b);
        Check.same("fun f(a in 0..3)= a;", 0, bench::compile);
        Check.same("its value", 3L, () -> bench.call(0, 3, 0, 0));
        // a byte that is no token, at each of the twenty places; numbers below 0 have a high first byte
        for (int place = 0; place < 20; place++) {
            int[] four = {0x20202020, 0x20202020, 0x20202020, 0x20202020, 0x20202020};
            four[place / 4] ^= 0xdf << 24 - place % 4 * 8;
            bench.feed(four[0], four[1], four[2], four[3], four[4]);
            int due = place;
            Check.same("a byte 255 at " + place, 1, bench::compile);
            Check.same("errorAt of it", due, bench::errorAt);
        }
        bench.feed(0x20202020, 0x20202020, 0x20202020, 0x20202020, 0x20202020);
        bench.feed(0x20202020, LEAST, 0, 0, 0);
        Check.same("the second twenty stand behind the first", 1, bench::compile);
        Check.same("at their place", 24, bench::errorAt);
    }

    private static void feedReturns() {
        Doc.says("Promise 2", "Returns the number of bytes of the tape.");
        CaseTables bench = new CaseTables();
        for (int times = 1; times <= 75; times++) {
            int due = 20 * times;
            Check.same("feed " + times, due, () -> bench.feed(0, MOST, LEAST, -1, 1));
        }
        bench.trim(7);
        Check.same("behind a trim", 27, () -> bench.feed(0, 0, 0, 0, 0));
    }

    private static void feedThrows() {
        Doc.says("Promise 2", "Throws `IllegalStateException` if there would be more than 1500");
        CaseTables bench = new CaseTables();
        for (int times = 1; times <= 75; times++) {
            bench.feed(0, 0, 0, 0, 0);
        }
        Check.noState("at 1500", () -> bench.feed(0, 0, 0, 0, 0));
        for (int length = 1499; length >= 1481; length--) {
            bench.trim(length);
            Check.noState("at " + length, () -> bench.feed(0, 0, 0, 0, 0));
        }
        bench.trim(1480);
        Check.same("at 1480", 1500, () -> bench.feed(0, 0, 0, 0, 0));
    }

    private static void trimKeepsFirst() {
        Doc.says("Promise 3", "Shortens the tape to its first bytes.");
        CaseTables bench = new CaseTables();
        Text.feed(bench, F + F);
        bench.trim(F.length());
        Check.same("the first ones are left", 0, bench::compile);
        Text.feed(bench, F);
        bench.trim(F.length() - 1);
        Check.same("all but the last one", 1, bench::compile);
        Check.same("the end is where it was cut", F.length() - 1, bench::errorAt);
        Text.feed(bench, F);
        bench.trim(0);
        Text.feed(bench, "x" + F);
        Check.same("nothing of what was cut is left", 1, bench::compile);
        Check.same("at its place", 0, bench::errorAt);
    }

    private static void trimReturns() {
        Doc.says("Promise 3", "Returns n.");
        CaseTables bench = new CaseTables();
        Check.same("trim(0) of an empty tape", 0, () -> bench.trim(0));
        bench.feed(0, 0, 0, 0, 0);
        for (int kept : new int[] {20, 19, 19, 1, 1, 0, 0}) {
            Check.same("trim(" + kept + ")", kept, () -> bench.trim(kept));
            Check.same("bytes", kept, () -> bench.count(4));
        }
    }

    private static void trimThrows() {
        Doc.says("Promise 3", "Throws `IllegalArgumentException` if n is not 0 to the number of bytes of the tape");
        CaseTables bench = new CaseTables();
        for (int kept : new int[] {-1, 1, 1500, MOST, LEAST}) {
            Check.noArgument("trim(" + kept + ") of an empty tape", () -> bench.trim(kept));
        }
        bench.feed(0, 0, 0, 0, 0);
        for (int kept : new int[] {-1, 21, 1500, MOST, LEAST}) {
            Check.noArgument("trim(" + kept + ") of 20 bytes", () -> bench.trim(kept));
        }
        bench.trim(10);
        Check.noArgument("trim(11) of 10 bytes", () -> bench.trim(11));
        Check.same("trim(10) of 10 bytes", 10, () -> bench.trim(10));
        Check.same("trim(0) of 10 bytes", 0, () -> bench.trim(0));
    }

    private static void programIsGone() {
        Doc.says("Promise 4", "The program that was there is gone in any case.");
        String old = F + "fun g(a in 0..1) = if a then 1 else 2; table t of f: *, *: any; table u of g: *: any;";
        for (String next : new String[] {"", "fun", "fun f(a in 0..3) = q;", "fun h(a in 0..3) = a;"}) {
            CaseTables bench = Text.compiled(old);
            Text.feed(bench, next);
            boolean isProgram = bench.compile() == 0;
            Check.same("functions behind " + next, isProgram ? 1 : 0, () -> bench.count(0));
            Check.same("tables behind " + next, 0, () -> bench.count(1));
            Check.same("ifs behind " + next, 0, () -> bench.count(2));
            Check.same("cases behind " + next, 0, () -> bench.count(3));
            Check.noIndex("function 1 behind " + next, () -> bench.call(1, 1, 1, 1));
            Check.noIndex("table 0 behind " + next, () -> bench.table(0, 0));
            Check.noIndex("if 0 behind " + next, () -> bench.taken(0, true));
        }
        // names, rows and counts of the old one are not in the new one
        CaseTables bench = Text.compiled(old);
        Check.same("taken before", 1, () -> bench.taken(0, true));
        Text.feed(bench, "fun t(b in 0..1) = if b then 1 else 2; table f of t: 0: = 1;");
        Check.same("the same names", 0, bench::compile);
        Check.same("taken then", 0, () -> bench.taken(0, true));
        Check.same("taken else", 1, () -> bench.taken(0, false));
        Check.same("it holds no more", false, () -> bench.holds(0, 0));
        Check.same("not tried", 1, () -> bench.fun(0, 5));
    }

    private static void compileReturns() {
        Doc.says("Promise 4", "Returns 0, or the error, 1 to 6.");
        Text.accepted(F);
        Text.refusedAtMark(1, "@");
        Text.refusedAtMark(2, "fun f(a in 0..3) = @q;");
        Text.refusedAtMark(3, F + "fun @f(a in 0..3) = a;");
        Text.refusedAtMark(4, "fun f(a in 0..1, b in 0..1, c in 0..1, @d in 0..1) = a;");
        Text.refusedAtMark(5, "fun f(a in 3..@2) = a;");
        Text.refusedAtMark(6, F + "fun g(a in 0..1) = @f(a);");
    }

    private static void errorAtWithout() {
        Doc.says("Promise 5", "-1 if it had none, or there was none.");
        CaseTables bench = new CaseTables();
        Check.same("there was none", -1, bench::errorAt);
        Text.feed(bench, "fun f(x in 0..1) = y;");
        Check.same("there still was none", -1, bench::errorAt);
        bench.compile();
        Check.same("it had one", 19, bench::errorAt);
        Text.feed(bench, F);
        Check.same("the latest compile still had one", 19, bench::errorAt);
        bench.compile();
        Check.same("it had none", -1, bench::errorAt);
        bench.compile();
        Check.same("the first byte", 0, bench::errorAt);
        Text.feed(bench, F);
        bench.compile();
        Check.same("it had none again", -1, bench::errorAt);
    }

    private static void countThrows() {
        Doc.says("Promise 6", "Throws `IndexOutOfBoundsException` if what is not 0 to 4");
        for (CaseTables bench : new CaseTables[] {new CaseTables(), Text.compiled(F)}) {
            for (int what : new int[] {-1, 5, 6, MOST, LEAST}) {
                Check.noIndex("count(" + what + ")", () -> bench.count(what));
            }
            Check.same("count(4)", 0, () -> bench.count(4));
        }
    }

    private static void countsNothing() {
        Doc.says("Promise 6", "0 functions, 1 tables, 2 ifs, 3 cases of all tables, 4 bytes of the tape");
        StringBuilder all = new StringBuilder();
        for (int i = 0; i < 6; i++) {
            all.append("fun f").append(i).append("(a in 0..9,b in 0..9)=if a then if a then 1 else 2 else ");
            all.append("if a then 1 else ".repeat(7)).append("3;");
            all.append("table t").append(i).append(" of f").append(i).append(":*,*:any;");
        }
        CaseTables most = new CaseTables();
        Text.feed(most, all.toString());
        Check.same("compile of the most", 0, most::compile);
        Text.feed(most, " ".repeat(1500));
        int[] due = {6, 6, 54, 600, 1500};
        CaseTables least = Text.compiled("fun f(a in 0..0) = a;");
        for (int i = 0; i < due.length; i++) {
            int what = i;
            Check.same("the most of " + i, due[i], () -> most.count(what));
            Check.same("the least of " + i, i == 0 ? 1 : 0, () -> least.count(what));
        }
        Check.same("the last if", 10, () -> most.taken(53, false));
    }

    // ---- all calls

    private static void manyCalls() {
        Doc.says("What it is", "An object is used for at most 512 calls after it has been made");
        CaseTables bench = new CaseTables();
        int calls = 0;
        String program = "fun f(a in 0..9) = 60 / a; table t of f: 0: error;";
        for (int round = 0; round < 15; round++) {
            for (int at = 0; at < program.length(); at += 20) {
                bench.feed(Text.four(program, at), Text.four(program, at + 4), Text.four(program, at + 8),
                        Text.four(program, at + 12), Text.four(program, at + 16));
                calls++;
            }
            bench.compile();
            calls++;
            for (int cases = 2; cases <= 10; cases++) {
                int due = cases;
                Check.same("grow in round " + round, due, () -> bench.grow(0));
                calls++;
            }
            Check.same("all hold in round " + round, -1, () -> bench.table(0, 4));
            Check.same("shorten in round " + round, 2, () -> bench.shorten(0));
            calls += 2;
        }
        while (calls < 511) {
            Check.noState("a refused call", () -> bench.call(0, 0, 0, 0));
            calls++;
        }
        Check.same("the 512th call", 6L, () -> bench.call(0, 10, 0, 0));
    }

    private static void unchanged(String call, CaseTables bench, Consumer<CaseTables> refused) {
        long digest = bench.digest();
        int errorAt = bench.errorAt();
        int proposed = bench.propose(0);
        double score = bench.score(0);
        try {
            refused.accept(bench);
            Check.same(call + " throws", true, () -> false);
        } catch (RuntimeException e) {
            Check.same("digest behind " + call, digest, bench::digest);
            Check.same("errorAt behind " + call, errorAt, bench::errorAt);
            Check.same("propose behind " + call, proposed, () -> bench.propose(0));
            Check.same("score behind " + call, score, () -> bench.score(0));
        }
    }

    private static void refusedChangesNothing() {
        Doc.says("3. Tables", "A method that throws an exception changes nothing.");
        CaseTables bench = Text.compiled("fun f(a in 0..9) = if a then 60 / (a - 1) else 3;"
                + " table t of f: 0: = 3 | 1: error"
                + " | 0: any".repeat(10) + "; fun g(a in 0..1) = a; table u of g: *: any;");
        Text.feed(bench, F + " ".repeat(1490 - F.length()));
        unchanged("feed", bench, b -> b.feed(0, 0, 0, 0, 0));
        unchanged("trim(-1)", bench, b -> b.trim(-1));
        unchanged("trim(1491)", bench, b -> b.trim(1491));
        unchanged("count(5)", bench, b -> b.count(5));
        unchanged("fun(0, 6)", bench, b -> b.fun(0, 6));
        unchanged("fun(2, 0)", bench, b -> b.fun(2, 0));
        unchanged("call(2)", bench, b -> b.call(2, 0, 0, 0));
        unchanged("call with an error", bench, b -> b.call(0, 1, 0, 0));
        unchanged("callChanged(0, 9)", bench, b -> b.callChanged(0, 9, 1, 0, 0));
        unchanged("callChanged with an error", bench, b -> b.callChanged(0, 4, 2, 0, 0));
        unchanged("inputOf(0, 10, 0)", bench, b -> b.inputOf(0, 10, 0));
        unchanged("propose(2)", bench, b -> b.propose(2));
        unchanged("table(0, 5)", bench, b -> b.table(0, 5));
        unchanged("caseOf(0, 12, 0)", bench, b -> b.caseOf(0, 12, 0));
        unchanged("holds(0, 12)", bench, b -> b.holds(0, 12));
        unchanged("taken(1)", bench, b -> b.taken(1, true));
        unchanged("finds(0, 9)", bench, b -> b.finds(0, 9));
        unchanged("score(2)", bench, b -> b.score(2));
        unchanged("grow(2)", bench, b -> b.grow(2));
        unchanged("grow of 12 rows", bench, b -> b.grow(0));
        unchanged("grow with all pairs tried", bench, b -> b.grow(1));
        unchanged("shorten(2)", bench, b -> b.shorten(2));
        // the tape is what it was, and so is the program
        Check.same("value", 60L, () -> bench.call(0, 2, 0, 0));
        Check.same("the tape", 0, bench::compile);
        Check.same("its program", 2, () -> bench.fun(0, 0));
    }

    private static void firstNamedIsThrown() {
        Doc.says("3. Tables", "If several exceptions apply, the one that is named first is thrown.");
        CaseTables bench = Text.compiled("fun f(a in 0..1) = 1 / a; table t of f: *: any;");
        Check.noIndex("no place, and an error", () -> bench.callChanged(0, 2, 0, 0, 0));
        Check.noIndex("place -1, and an error", () -> bench.callChanged(0, -1, 0, 0, 0));
        Check.noIndex("no function, where the others have an error", () -> bench.call(1, 0, 0, 0));
        Check.noIndex("no function -1", () -> bench.callChanged(-1, 0, 0, 0, 0));
        Check.noIndex("no table, where the others have all pairs tried", () -> bench.grow(1));
        Check.noIndex("no table -1", () -> bench.grow(-1));
    }
}
