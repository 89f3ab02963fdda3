import java.io.IOException;
import java.lang.management.ManagementFactory;
import java.lang.reflect.Constructor;
import java.lang.reflect.Field;
import java.lang.reflect.InvocationTargetException;
import java.lang.reflect.Method;
import java.lang.reflect.Modifier;
import java.nio.file.Files;
import java.nio.file.Path;
import java.util.ArrayList;
import java.util.Arrays;
import java.util.List;
import java.util.Random;
import java.util.TreeMap;
import java.util.TreeSet;
import java.util.regex.Matcher;
import java.util.regex.Pattern;

/** The rules of the language, as far as they can be looked at from outside: the face, the words, what calls make. */
public final class LanguageTest {
    private static final String[] FACE = {
        "int type(int,int)", "int wipe(int)", "int undo(int)", "int fault(int)", "int cell(int)", "int thing(int,int)",
        "int wind(int)", "int widens(int)", "int blow(int,int,int,int,int)", "int ring(int,int)", "int back()", "int read(int)",
        "int at(int,int,int)", "int bound(int,int)", "int wed(int,int)", "int throughs(int)", "int missed()", "int richest()",
        "int lonely()", "int breath(int,int)", "int aim(int,int)", "int stand(int)", "int hush(int,int)", "int calm(int)",
        "int free(int,int,int)", "int seen(int,int)", "int forget()", "int never()", "int whence(int,int)", "int paces()",
        "int ask()", "long still(int,int,int,int,int)", "int evening(int,int,int)", "int sheet(int,int,int)", "int lose(int)",
        "int lay(int,int,int,int)", "int get(int,int,int)", "int copy(int,int,int,int,int)", "int write(int,int)",
        "int count(int)", "long digest()"};
    private static int wrong = 0;

    private static void must(boolean so, String what) {
        if (!so) {
            wrong++;
            System.out.println(what);
        }
    }

    private static final String[] CONSTANTS = {"int NONE = -1", "int BAD = -2", "int NOT = -3", "int FULL = -4"};

    private static void face() throws IllegalAccessException {
        Class<?> c = SmokeRings.class;
        must(Modifier.isPublic(c.getModifiers()) && Modifier.isFinal(c.getModifiers()), "rule 1: public and final");
        TreeSet<String> found = new TreeSet<>();
        TreeSet<String> names = new TreeSet<>();
        for (Method m : c.getDeclaredMethods()) {
            if (Modifier.isPrivate(m.getModifiers())) continue;
            must(Modifier.isPublic(m.getModifiers()) && !Modifier.isStatic(m.getModifiers()), "rule 1: " + m);
            String types = Arrays.toString(m.getParameterTypes()).replaceAll("[\\[\\] ]", "");
            found.add(m.getReturnType() + " " + m.getName() + "(" + types + ")");
            names.add(m.getName());
        }
        must(found.equals(new TreeSet<>(Arrays.asList(FACE))), "rule 1: the methods are " + found);
        for (Constructor<?> k : c.getDeclaredConstructors()) {
            must(Modifier.isPublic(k.getModifiers()) && k.getParameterCount() == 0, "rule 1: a constructor " + k);
        }
        TreeSet<String> constants = new TreeSet<>();
        for (Field f : c.getDeclaredFields()) {
            int m = f.getModifiers();
            if (Modifier.isPrivate(m)) continue;
            must(Modifier.isPublic(m) && Modifier.isStatic(m) && Modifier.isFinal(m), "rule 1: " + f);
            if (Modifier.isStatic(m)) constants.add(f.getType() + " " + f.getName() + " = " + f.get(null));
        }
        must(constants.equals(new TreeSet<>(Arrays.asList(CONSTANTS))), "rule 1: the constants are " + constants);
        inside(names);
    }

    private static void inside(TreeSet<String> names) {
        List<Class<?>> all = new ArrayList<>(Arrays.asList(SmokeRings.class.getDeclaredClasses()));
        for (Class<?> k : all) {
            int m = k.getModifiers();
            must(Modifier.isStatic(m) && !Modifier.isPublic(m) && !Modifier.isProtected(m), "rule 1: the class " + k);
        }
        all.add(SmokeRings.class);
        must(all.size() <= 12, "rule 11: " + all.size() + " classes");
        for (Class<?> k : all) {
            int fields = 0;
            for (Field f : k.getDeclaredFields()) {
                int m = f.getModifiers();
                must(!Modifier.isStatic(m) || Modifier.isFinal(m), "rule 5: " + f);
                if (!Modifier.isStatic(m)) fields++;
            }
            must(fields <= 20, "rule 11: " + fields + " fields in " + k);
            for (Method m : k.getDeclaredMethods()) {
                must(m.getParameterCount() <= 7, "rule 11: " + m);
                must(k == SmokeRings.class && Modifier.isPublic(m.getModifiers()) || !names.contains(m.getName()), "rule 1: " + m);
            }
        }
    }

    /** The source without its comments, texts and signs. */
    private static String bare(String source) {
        return source.replaceAll("(?s)/\\*.*?\\*/", "").replaceAll("//[^\n]*", "")
            .replaceAll("'(\\\\.|[^'\\\\])'", "' '").replaceAll("\"(\\\\.|[^\"\\\\])*\"", "\"\"");
    }

    private static void words() throws IOException {
        String source = Files.readString(Path.of("src/main/java/SmokeRings.java"));
        for (int i = 0; i < source.length(); i++) {
            must(source.charAt(i) < 128, "a sign beyond 127 at " + i);
        }
        String code = bare(source);
        String[] words = {"throw", "throws", "try", "catch", "finally", "synchronized", "assert", "volatile", "native", "transient",
            "package", "protected", "Object", "Exception", "hashCode", "MIN_VALUE", "MAX_VALUE", "Thread", "Random",
            "var", "yield", "System\\.(?!arraycopy)\\w+", "\\w*Exact"};
        for (String w : words) {
            must(!Pattern.compile("\\b" + w + "\\b").matcher(code).find(), "the word " + w + " stands in the source");
        }
        must(!code.contains("->") && !code.contains("::") && !code.contains("@"), "rule 2: a lambda, a reference or an annotation");
        must(!Pattern.compile("\\bstatic\\s*\\{").matcher(code).find(), "rule 5: a static block");
        Matcher imports = Pattern.compile("import\\s+([^;]+);").matcher(code);
        List<String> imported = Arrays.asList("java.util.Arrays", "java.util.ArrayList", "java.util.List", "java.util.Iterator");
        while (imports.find()) must(imported.contains(imports.group(1)), "rule 4: import " + imports.group(1));
        Matcher library = Pattern.compile("\\b(Arrays|Math|Integer|Long|System)\\.(\\w+)").matcher(code);
        List<String> known = Arrays.asList("fill", "copyOf", "copyOfRange", "compare", "max", "min", "abs", "signum", "bitCount",
            "numberOfTrailingZeros", "numberOfLeadingZeros", "floorDiv", "floorMod", "arraycopy");
        while (library.find()) must(known.contains(library.group(2)), "rule 4: " + library.group());
        lengths(code);
        depths(code);
    }

    private static void lengths(String code) {
        String[] lines = code.split("\n");
        int start = -1;
        String indent = "";
        for (int i = 0; i < lines.length; i++) {
            Matcher head = Pattern.compile("( {4}| {8})\\w[^=;]*\\(.*").matcher(lines[i]);
            if (start < 0 && head.matches()) {
                start = i;
                indent = head.group(1);
            }
            if (start >= 0 && lines[i].equals(indent + "}")) {
                must(i - start < 60, "rule 11: a long method at line " + (start + 1));
                start = -1;
            }
        }
    }

    private static final Pattern CALLED = Pattern.compile("(\\bnew\\s+)?(\\.)?\\b([a-z]\\w*)\\(");
    private static final List<String> NO_CALLS = Arrays.asList("if", "for", "while", "switch", "return", "this", "super");

    /** How many arguments or parameters stand behind an opening bracket. */
    private static int parts(String code, int open) {
        int depth = 0, commas = 0;
        for (int i = open; i < code.length(); i++) {
            char c = code.charAt(i);
            if (c == '(' || c == '[' || c == '{') depth++;
            if (c == ')' || c == ']' || c == '}') depth--;
            if (c == ',' && depth == 1) commas++;
            if (depth == 0) return code.substring(open + 1, i).isBlank() ? 0 : commas + 1;
        }
        return 0;
    }

    /** The bodies of all methods, by "class.name/parameters". */
    private static TreeMap<String, String> bodies(String code) {
        TreeMap<String, String> bodies = new TreeMap<>();
        Pattern head = Pattern.compile("(?m)^( {4}| {8})((?:\\w+ )*)\\w+(?:\\[\\])* (\\w+)\\(([^)]*)\\) \\{$");
        Matcher m = head.matcher(code);
        while (m.find()) {
            int end = code.indexOf("\n" + m.group(1) + "}", m.end());
            Matcher kind = Pattern.compile("\\bclass (\\w+)").matcher(code.substring(0, m.start()));
            String owner = "";
            while (kind.find()) owner = kind.group(1);
            String name = owner + "." + m.group(3) + "/" + parts(code, m.start(4) - 1);
            must(bodies.put(name, code.substring(m.end(), end)) == null, "two methods " + name);
        }
        return bodies;
    }

    /** What a method calls: by its bare name one of its own class, by a reference one of another class. */
    private static TreeSet<String> called(String method, TreeMap<String, String> bodies) {
        String owner = method.substring(0, method.indexOf('.') + 1);
        TreeSet<String> called = new TreeSet<>();
        Matcher m = CALLED.matcher(bodies.get(method));
        while (m.find()) {
            if (m.group(1) != null || NO_CALLS.contains(m.group(3))) continue;
            String tail = "." + m.group(3) + "/" + parts(bodies.get(method), m.end() - 1);
            for (String other : bodies.keySet()) {
                if (other.endsWith(tail) && other.startsWith(owner) == (m.group(2) == null)) called.add(other);
            }
        }
        return called;
    }

    private static int depth(String method, TreeMap<String, String> bodies, List<String> open) {
        if (open.contains(method)) {
            must(false, "rule 8: " + method + " comes to call itself");
            return 0;
        }
        open.add(method);
        int deepest = 0;
        for (String other : called(method, bodies)) deepest = Math.max(deepest, depth(other, bodies, open));
        open.remove(open.size() - 1);
        return deepest + 1;
    }

    private static void depths(String code) {
        TreeMap<String, String> bodies = bodies(code);
        must(bodies.containsKey("Play.shift/2") && bodies.containsKey("SmokeRings.digest/0"), "the methods were not found");
        int deepest = 0;
        for (String method : bodies.keySet()) {
            int depth = depth(method, bodies, new ArrayList<>());
            must(depth <= 8, "rule 11: calls from " + method + " stand " + depth + " deep");
            deepest = Math.max(deepest, depth);
        }
        must(deepest > 5, "the calls were not found");
    }

    private static int someInt(Random random) {
        int[] far = {Integer.MIN_VALUE, Integer.MAX_VALUE, -1, -2, 0, 255, 256, 1 << 16};
        int luck = random.nextInt(30);
        return luck == 0 ? random.nextInt() : luck == 1 ? far[random.nextInt(far.length)] : random.nextInt(luck < 12 ? 4 : luck < 24 ? 10 : 64) - 1;
    }

    /** Any arguments in any state: a call only ever answers. */
    private static void wildCalls() throws ReflectiveOperationException {
        Random random = new Random(5);
        Method[] methods = SmokeRings.class.getMethods();
        for (int run = 0; run < 60; run++) {
            SmokeRings x = new SmokeRings();
            prepare(x, random);
            for (int call = 0; call < 390; call++) {
                Method m = methods[random.nextInt(methods.length)];
                if (m.getDeclaringClass() != SmokeRings.class) continue;
                if (m.getName().equals("wipe") && random.nextInt(8) > 0) continue;
                Object[] args = new Object[m.getParameterCount()];
                for (int i = 0; i < args.length; i++) args[i] = someInt(random);
                try {
                    m.invoke(x, args);
                } catch (InvocationTargetException e) {
                    must(false, "rule 7: " + m.getName() + Arrays.toString(args) + " throws " + e.getCause());
                }
            }
        }
    }

    private static void prepare(SmokeRings x, Random random) {
        String[] texts = {"..#...;......;.#....;......;......;....#.", "151p;073p;082b;203t;211p;222b;281t;005p", ".nesw.nnees.wwss.new"};
        for (int text = 0; text < 3; text++) {
            for (char b : texts[text].toCharArray()) x.type(text, b);
        }
        for (int r = 0; r < 8; r++) x.blow(random.nextInt(6), random.nextInt(36), random.nextInt(4), 1 + random.nextInt(9), random.nextInt(4));
    }

    private static long madeBy(SmokeRings x) {
        com.sun.management.ThreadMXBean bean = (com.sun.management.ThreadMXBean) ManagementFactory.getThreadMXBean();
        long before = bean.getCurrentThreadAllocatedBytes();
        for (int i = 0; i < 18; i++) {
            x.digest();
            x.still(5, 9, 0, 0, 0);
            x.sheet(i % 4, i % 3, 60);
            x.write(0, i % 4);
            x.read(i % 4);
            x.undo(1);
            x.type(1, 'p');
            x.back();
            x.blow(1, 2, 3, 4, 3);
            x.seen(0, 4);
            x.evening(i, 8, 0);
        }
        return bean.getCurrentThreadAllocatedBytes() - before;
    }

    /** What one object and its dear calls make, against a room of 600,000 objects with 7.3 million fields and elements. */
    private static void room() {
        madeBy(made());
        SmokeRings x = made();
        long bytes = madeBy(x) + madeBy(x);
        must(bytes < 1_000_000, "rule 12: calls made " + bytes + " bytes");
    }

    private static SmokeRings made() {
        SmokeRings x = new SmokeRings();
        prepare(x, new Random(3));
        return x;
    }

    public static void main(String[] args) throws Exception {
        face();
        words();
        wildCalls();
        room();
        System.out.println(wrong == 0 ? "the rules are kept" : wrong + " rules are not kept");
        if (wrong != 0) System.exit(1);
    }
}
