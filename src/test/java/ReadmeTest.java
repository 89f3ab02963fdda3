import java.io.IOException;
import java.lang.reflect.Method;
import java.lang.reflect.Modifier;
import java.nio.file.Files;
import java.nio.file.Path;
import java.util.ArrayList;
import java.util.List;
import java.util.regex.Matcher;
import java.util.regex.Pattern;

/** README.md's own account: what it shows compiles and answers as it says, and its commands run the tests. */
public final class ReadmeTest {
    private static final Pattern CALL = Pattern.compile("\\s*(x\\.(\\w+)\\(.*\\));(.*)");
    private static final Pattern ANSWER = Pattern.compile("\\s*// (NONE|BAD|NOT|FULL|-?\\d+): .+");
    private static int wrong = 0, looks = 0;

    private static void must(boolean so, String what) {
        looks++;
        if (!so) {
            wrong++;
            System.out.println(what);
        }
    }

    /** What stands between ``` of a language and the next ```. */
    private static List<String> blocks(String readme, String language) {
        List<String> found = new ArrayList<>();
        Matcher m = Pattern.compile("(?ms)^```" + language + "\\n(.*?)^```$").matcher(readme);
        while (m.find()) found.add(m.group(1));
        must(!found.isEmpty(), "README.md has no block of " + language);
        return found;
    }

    private static String program(String name, String lines, String rest) {
        return "public final class " + name + " {\n    public static void main(String[] args) {\n" + lines + "    }\n" + rest + "}\n";
    }

    /** The lines shown, each call whose answer is told compared with it. */
    private static String asked(String shown) {
        StringBuilder s = new StringBuilder();
        for (String line : shown.split("\n")) {
            Matcher call = CALL.matcher(line);
            if (!call.matches()) {
                s.append(line).append('\n');
                continue;
            }
            Matcher answer = ANSWER.matcher(call.group(3));
            must(answer.matches(), "README.md shows a call without its answer: " + line);
            if (answer.matches()) {
                String due = answer.group(1);
                due = Character.isLetter(due.charAt(0)) ? "SmokeRings." + due : due + "L";
                s.append("due(").append(call.group(1)).append(", ").append(due).append(", \"")
                    .append(call.group(1).replace("\\", "\\\\").replace("\"", "\\\"")).append("\");\n");
            }
        }
        return s.append("if (wrong != 0) System.exit(1);\n").toString();
    }

    private static void everyCallIsShown(String shown) {
        for (Method m : SmokeRings.class.getDeclaredMethods()) {
            if (Modifier.isPublic(m.getModifiers())) {
                must(shown.contains("x." + m.getName() + "("), "README.md does not show " + m.getName() + "()");
            }
        }
    }

    private static void example(String readme) throws Exception {
        List<String> blocks = blocks(readme, "java");
        must(blocks.size() == 1, "README.md shows more than one program");
        for (String shown : blocks) {
            everyCallIsShown(shown);
            try (Project p = new Project()) {
                p.copy("src/main/java/SmokeRings.java");
                p.put("Shown.java", program("Shown", shown, ""));
                p.put("Asked.java", program("Asked", asked(shown),
                    "static int wrong = 0;\nstatic void due(long got, long want, String call) {\n"
                        + "if (got != want) { wrong++; System.out.println(call + \" answers \" + got + \", README.md says \" + want); }\n}\n"));
                for (String name : new String[] {"Shown", "Asked"}) {
                    Project.Done done = p.run("javac -d out src/main/java/SmokeRings.java " + name + ".java && java -cp out " + name);
                    must(done.code == 0, "what README.md shows, as " + name + ":\n" + done.printed);
                }
            }
        }
    }

    /** The project with some of its tests, this one not among them: it would run itself. */
    private static Project some() throws IOException {
        Project p = new Project();
        p.copy("src/main/java/SmokeRings.java");
        p.copy("src/test/help/Due.java");
        p.copy("src/test/java/RingEdgesTest.java");
        p.put("../shared/tests/FaceRuns.java", program("FaceRuns", "if (SmokeRings.FULL != -4) System.exit(1);\n", ""));
        return p;
    }

    private static void commands(String readme) throws Exception {
        List<String> blocks = blocks(readme, "sh");
        must(blocks.size() == 2 && blocks.get(0).startsWith(".ci/run"), "README.md gives .ci/run, then the commands of one test");
        must(Files.isExecutable(Path.of(".ci/run")), ".ci/run can't be run");
        for (String block : blocks) {
            try (Project p = some()) {
                Project.Done done = p.run(block);
                must(done.code == 0, "README.md's commands fail:\n" + block + done.printed);
                must(done.printed.contains(" sentences, ") && done.printed.contains(", 0 not as due"),
                    "README.md's commands run no test:\n" + block + done.printed);
                String source = p.get("src/main/java/SmokeRings.java");
                p.put("src/main/java/SmokeRings.java", source.replace("settle(r, FADED)", "settle(r, BROKEN)"));
                must(!source.equals(p.get("src/main/java/SmokeRings.java")), "the fault was not put in");
                must(p.run(block).code != 0, "README.md's commands let a fault pass:\n" + block);
            }
        }
    }

    public static void main(String[] args) throws Exception {
        String readme = Files.readString(Path.of("README.md"));
        example(readme);
        commands(readme);
        System.out.println(looks + " looks at README.md, " + wrong + " not as due");
        if (wrong != 0) System.exit(1);
    }
}
