/** Runs all tests of the project. */
public final class AllTests {
    private AllTests() {
    }

    public static void main(String[] args) throws Exception {
        endInAnyCase();
        FaceTests.run();
        PromiseTests.run();
        TextEdges.run();
        FilterEdges.run();
        ActEdges.run();
        QuestionEdges.run();
        KeptEdges.run();
        RangeEdges.run();
        RefusalEdges.run();
        ModelTests.run();
        ReadmeTests.run();
        System.out.println(Check.passed + " passed, " + Check.failed + " failed");
        if (Check.failed != 0) {
            System.exit(1);
        }
    }

    /** A broken program may go on for ever; the tests take some ten seconds. */
    private static void endInAnyCase() {
        Thread watch = new Thread(() -> {
            try {
                Thread.sleep(300_000);
            } catch (InterruptedException e) {
                return;
            }
            System.out.println("FAILED the tests did not end");
            Runtime.getRuntime().halt(1);
        });
        watch.setDaemon(true);
        watch.start();
    }
}
