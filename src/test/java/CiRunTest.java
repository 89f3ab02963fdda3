import java.io.IOException;

/** What .ci/run makes of tests that pass and of tests that don't, in a project of its own. */
public final class CiRunTest {
    private static final String MAIN = "public static void main(String[] args) throws Exception { ";
    private static final String PASSES = "", FAILS = "System.exit(1);";
    private static int wrong = 0, looks = 0;

    private static void must(boolean so, String what, Project.Done done) {
        looks++;
        if (!so) {
            wrong++;
            System.out.println(what + "; it ended with " + done.code + " and printed:\n" + done.printed);
        }
    }

    private static void put(Project p, String directory, String name, String body) throws IOException {
        p.put(directory + "/" + name + ".java",
            "public final class " + name + " { " + MAIN + "new SmokeRings(); System.out.println(\"" + name + " runs\"); " + body + " } }");
    }

    private static Project project() throws IOException {
        Project p = new Project();
        p.put("src/main/java/SmokeRings.java", "public final class SmokeRings { public SmokeRings() { } }");
        p.put("src/test/help/Help.java", "final class Help { static int seven() { return 7; } }");
        return p;
    }

    private static void everyTestRuns() throws Exception {
        try (Project p = project()) {
            put(p, "src/test/java", "Mine", "if (Help.seven() != 7) System.exit(1);");
            put(p, "src/test/java", "Other", PASSES);
            put(p, "../shared/tests", "Theirs", PASSES);
            put(p, "../shared/tests", "TheirsToo", PASSES);
            for (String directory : new String[] {"main", "shared"}) {
                Project.Done done = p.run(directory, "../main/.ci/run");
                must(done.code == 0, "all tests pass, called in " + directory, done);
                for (String name : new String[] {"Mine", "Other", "Theirs", "TheirsToo"}) {
                    must(done.printed.contains(name + " runs"), name + " has to run", done);
                }
            }
        }
    }

    /** One test that is not well ahead of, or behind, one that passes. */
    private static void oneFails(String what, String directory, String name, String body) throws Exception {
        try (Project p = project()) {
            put(p, "src/test/java", "Mine", PASSES);
            put(p, "../shared/tests", "Theirs", PASSES);
            put(p, directory, name, body);
            Project.Done done = p.run(".ci/run");
            must(done.code != 0, what, done);
            must(done.printed.contains("FAILED: " + name), what + ": it has to be named", done);
            must(done.printed.contains("Theirs runs"), what + ": the others have to run", done);
        }
    }

    private static void nothingToRun() throws Exception {
        try (Project p = project()) {
            Project.Done done = p.run(".ci/run");
            must(done.code != 0, "no test at all", done);
        }
    }

    private static void noClass() throws Exception {
        try (Project p = project()) {
            p.put("src/main/java/SmokeRings.java", "public final class SmokeRings { public SmokeRings() { return 1; } }");
            p.put("src/test/java/Mine.java", "public final class Mine { " + MAIN + "} }");
            Project.Done done = p.run(".ci/run");
            must(done.code != 0, "a class that does not compile", done);
        }
    }

    public static void main(String[] args) throws Exception {
        everyTestRuns();
        oneFails("a test of the project that fails, as the first", "src/test/java", "Ahead", FAILS);
        oneFails("a test under ../shared/tests that fails, as the last", "../shared/tests", "Zone", FAILS);
        oneFails("another exit code", "src/test/java", "Zone", "System.exit(77);");
        oneFails("an exception", "../shared/tests", "Ahead", "throw new Exception();");
        oneFails("a test that does not compile", "src/test/java", "Ahead", "new SmokeRings().unknown();");
        nothingToRun();
        noClass();
        System.out.println(looks + " looks at .ci/run, " + wrong + " not as due");
        if (wrong != 0) System.exit(1);
    }
}
