/** Runs every test of the project; ends with exit code 1 if one fails. */
public final class AllTests {
    private AllTests() {
    }

    public static void main(String[] args) {
        Checks checks = new Checks();
        new FaceTests(checks).run();
        new ReadmeTests(checks).run();
        new PromiseTests(checks).run();
        new RefusalTests(checks).run();
        new KeysEdgeTests(checks).run();
        new KeptEdgeTests(checks).run();
        new LogEdgeTests(checks).run();
        new ModelTests(checks).run();
        checks.report();
        if (checks.failed() != 0) {
            System.exit(1);
        }
    }
}
