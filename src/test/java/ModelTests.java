import java.util.Random;

/** Holds CaseTables against the model: the same calls on both, each answer the same. */
final class ModelTests {
    private static final int PROGRAMS = 5000;
    private static final int CALLS = 60;

    private final Random random = new Random(373);
    private CaseTables bench;
    private Model model;
    private String told;
    private int refused;

    private ModelTests() {
    }

    static void run() {
        new ModelTests().runAll();
    }

    private void runAll() {
        Programs programs = new Programs(random);
        for (int i = 0; i < PROGRAMS; i++) {
            if (i % 3 == 0) {
                bench = new CaseTables();
                model = new Model();
            }
            runOne(programs.next());
        }
        Check.same("many programs are refused and many are not", true,
                () -> refused > PROGRAMS / 5 && refused < PROGRAMS * 4 / 5);
    }

    private void runOne(String program) {
        told = program;
        feed(program);
        same("count(4)", () -> bench.count(4), () -> model.count(4));
        same("compile()", bench::compile, model::compile);
        same("errorAt()", bench::errorAt, model::errorAt);
        refused += bench.errorAt() >= 0 ? 1 : 0;
        same("digest()", bench::digest, model::digest);
        for (int i = 0; i < (bench.errorAt() >= 0 ? 3 : CALLS); i++) {
            callOne();
        }
        same("digest()", bench::digest, model::digest);
    }

    private void feed(String program) {
        for (int at = 0; at < program.length(); at += 20) {
            int a = Text.four(program, at);
            int b = Text.four(program, at + 4);
            int c = Text.four(program, at + 8);
            int d = Text.four(program, at + 12);
            int e = Text.four(program, at + 16);
            same("feed", () -> bench.feed(a, b, c, d, e), () -> model.feed(a, b, c, d, e));
        }
        same("trim", () -> bench.trim(program.length()), () -> model.trim(program.length()));
    }

    private void same(String call, Check.Call real, Check.Call due) {
        Check.same(call + " behind\n" + told + "\n", Check.answerOf(due), real);
    }

    /** Mostly a number from 0 to below the bound, now and then one that is out of it. */
    private int below(int bound) {
        int chance = random.nextInt(30);
        if (chance < 3 || bound <= 0) {
            return chance == 0 ? -1 : chance == 1 ? bound : bound + random.nextInt(5);
        }
        return random.nextInt(bound);
    }

    private int any() {
        return random.nextInt(12) == 0 ? random.nextInt() : random.nextInt(13) - 6;
    }

    private void callOne() {
        int fun = below(model.count(0));
        int table = below(model.count(1));
        boolean isFun = fun >= 0 && fun < model.count(0);
        boolean isTable = table >= 0 && table < model.count(1);
        int a = any();
        int b = any();
        int c = any();
        switch (random.nextInt(15)) {
            case 0:
                same("count", () -> bench.count(a), () -> model.count(a));
                break;
            case 1: {
                int what = below(6);
                same("fun " + fun + " " + what, () -> bench.fun(fun, what), () -> model.fun(fun, what));
                break;
            }
            case 2:
                same("call " + fun, () -> bench.call(fun, a, b, c), () -> model.call(fun, a, b, c));
                break;
            case 3:
            case 4: {
                int place = below(isFun ? model.fun(fun, 1) : 0);
                same("callChanged " + fun + " " + place, () -> bench.callChanged(fun, place, a, b, c),
                        () -> model.callChanged(fun, place, a, b, c));
                break;
            }
            case 5: {
                int index = below(isFun ? model.fun(fun, 3) : 0);
                int input = below(isFun ? model.fun(fun, 0) : 0);
                same("inputOf " + fun + " " + index + " " + input, () -> bench.inputOf(fun, index, input),
                        () -> model.inputOf(fun, index, input));
                break;
            }
            case 6:
                same("propose " + fun, () -> bench.propose(fun), () -> model.propose(fun));
                break;
            case 7: {
                int what = below(5);
                same("table " + table + " " + what, () -> bench.table(table, what), () -> model.table(table, what));
                break;
            }
            default:
                callOfTable(table, isTable);
                break;
        }
    }

    private void callOfTable(int table, boolean isTable) {
        int index = below(isTable ? model.table(table, 2) : 0);
        int fun = isTable ? model.table(table, 0) : 0;
        switch (random.nextInt(7)) {
            case 0: {
                int input = below(isTable ? model.fun(fun, 0) : 0);
                same("caseOf " + table + " " + index + " " + input, () -> bench.caseOf(table, index, input),
                        () -> model.caseOf(table, index, input));
                break;
            }
            case 1:
                same("holds " + table + " " + index, () -> bench.holds(table, index),
                        () -> model.holds(table, index));
                break;
            case 2: {
                int number = below(model.count(2));
                boolean isThen = random.nextBoolean();
                same("taken " + number + " " + isThen, () -> bench.taken(number, isThen),
                        () -> model.taken(number, isThen));
                break;
            }
            case 3: {
                int place = below(isTable ? model.fun(fun, 1) : 0);
                same("finds " + table + " " + place, () -> bench.finds(table, place),
                        () -> model.finds(table, place));
                break;
            }
            case 4:
                same("score " + table, () -> bench.score(table), () -> model.score(table));
                break;
            case 5:
                same("grow " + table, () -> bench.grow(table), () -> model.grow(table));
                break;
            default:
                if (random.nextInt(4) == 0) {
                    same("shorten " + table, () -> bench.shorten(table), () -> model.shorten(table));
                }
                break;
        }
    }
}
