/** Lays texts on the tape of a bench. */
final class Text {
    private Text() {
    }

    static void feed(CaseTables bench, String text) {
        int before = bench.count(4);
        for (int at = 0; at < text.length(); at += 20) {
            bench.feed(four(text, at), four(text, at + 4), four(text, at + 8), four(text, at + 12),
                    four(text, at + 16));
        }
        bench.trim(before + text.length());
    }

    /** Four characters as one number, with blanks behind the end. */
    static int four(String text, int at) {
        int number = 0;
        for (int i = at; i < at + 4; i++) {
            number = number << 8 | (i < text.length() ? text.charAt(i) & 255 : ' ');
        }
        return number;
    }

    static CaseTables compiled(String text) {
        CaseTables bench = new CaseTables();
        feed(bench, text);
        Check.same("compile of " + text, 0, bench::compile);
        return bench;
    }

    /** Checks that a program has no error. */
    static void accepted(String text) {
        CaseTables bench = new CaseTables();
        feed(bench, text);
        Check.same("compile of " + text, 0, bench::compile);
        Check.same("errorAt of " + text, -1, bench::errorAt);
    }

    /** Checks that a program has an error at a position. */
    static void refused(int error, int at, String text) {
        CaseTables bench = new CaseTables();
        feed(bench, text);
        Check.same("compile of " + text, error, bench::compile);
        Check.same("errorAt of " + text, at, bench::errorAt);
        Check.same("functions behind " + text, 0, () -> bench.count(0));
        Check.same("tables behind " + text, 0, () -> bench.count(1));
        Check.same("ifs behind " + text, 0, () -> bench.count(2));
    }

    /** Checks the error at the place that a "@" marks, which is not fed. */
    static void refusedAtMark(int error, String marked) {
        int at = marked.indexOf('@');
        refused(error, at, marked.substring(0, at) + marked.substring(at + 1));
    }
}
