/** Runs all tests of the project. */
public final class AllTests {
    private AllTests() {
    }

    /** The document's path is told from outside. */
    public static void main(String[] args) {
        Doc.read(args.length == 1 ? args[0] : "");
        FaceTests.run();
        ProgramTests.run();
        FunctionTests.run();
        TableTests.run();
        FormEdges.run();
        MeaningEdges.run();
        FunctionEdges.run();
        TableEdges.run();
        ProgramEdges.run();
        ModelTests.run();
        System.exit(Check.finish());
    }
}
