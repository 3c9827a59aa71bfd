/** Runs every test of the project; ends with exit code 1 if one failed. */
public final class AllTests {
    public static void main(String[] args) {
        Check check = new Check();
        FaceTests.run(check);
        SheetTests.run(check);
        TableTests.run(check);
        FoldingTests.run(check);
        SumTests.run(check);
        CommandTests.run(check);
        OutputTests.run(check);
        UndoTests.run(check);
        TermEdges.run(check);
        CommandEdges.run(check);
        UndoEdges.run(check);
        ChangeEdges.run(check);
        QuestionEdges.run(check);
        CountEdges.run(check);
        OutputEdges.run(check);
        RandomRuns.run(check);
        System.exit(check.failures() == 0 ? 0 : 1);
    }
}
