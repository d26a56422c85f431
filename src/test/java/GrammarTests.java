import java.util.Random;

/** Holds error 1 and its position against the grammar that is written in the document. */
final class GrammarTests {
    private static final int PROGRAMS = 1500;
    private static final String[] OPENING = {"(", "-", "not ", "if ", "f0(", "1+", "if 1 then 2 else "};

    private final Random random = new Random(1373);
    private final Grammar grammar = new Grammar(Doc.text("1. The language"));
    private int refused;

    private GrammarTests() {
    }

    static void run() {
        new GrammarTests().runAll();
    }

    private void runAll() {
        Programs programs = new Programs(random);
        for (int i = 0; i < PROGRAMS; i++) {
            runOne(spoiled(programs.next()));
        }
        Check.same("many programs have an error of form and many have none", true,
                () -> refused > PROGRAMS / 5 && refused < PROGRAMS * 4 / 5);
    }

    private void runOne(String program) {
        CaseTables bench = new CaseTables();
        Text.feed(bench, program);
        boolean hasMisfit = bench.compile() == 1;
        refused += hasMisfit ? 1 : 0;
        Check.same("error 1 of\n" + program + "\n", grammar.misfitIn(program),
                () -> hasMisfit ? bench.errorAt() : -1);
    }

    /** Half of the programs stay as they are; others are cut, lose or repeat a part or a byte, or go deeper. */
    private String spoiled(String program) {
        int at = random.nextInt(program.length());
        switch (random.nextInt(8)) {
            case 0:
                return program.substring(0, at);
            case 1:
                return shortened(program.substring(0, at) + " " + program.substring(random.nextInt(program.length())));
            case 2:
                int body = program.indexOf('=') + 1;
                return shortened(program.substring(0, body) + opened() + program.substring(body));
            case 3:
                String repeated = program.substring(at, at + 1).repeat(random.nextInt(9));
                return shortened(program.substring(0, at) + repeated + program.substring(at));
            default:
                return program;
        }
    }

    private String opened() {
        StringBuilder text = new StringBuilder();
        for (int left = random.nextInt(12); left > 0; left--) {
            text.append(OPENING[random.nextInt(OPENING.length)]);
        }
        return text.toString();
    }

    private static String shortened(String program) {
        return program.substring(0, Math.min(program.length(), 1500));
    }
}
