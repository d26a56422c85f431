/** Runs all tests of the project. */
public final class AllTests {
    private AllTests() {
    }

    /** The paths of the document and of README.md are told from outside. */
    public static void main(String[] args) {
        Doc.read(args.length == 2 ? args[0] : "");
        FaceTests.run();
        ProgramTests.run();
        FunctionTests.run();
        TableTests.run();
        FormEdges.run();
        MeaningEdges.run();
        FunctionEdges.run();
        TableEdges.run();
        ProgramEdges.run();
        GrammarTests.run();
        ModelTests.run();
        ReadmeTests.run(args.length == 2 ? args[1] : "");
        System.exit(Check.finish());
    }
}
