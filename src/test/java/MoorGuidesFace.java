import java.io.IOException;
import java.lang.management.ManagementFactory;
import java.lang.reflect.Constructor;
import java.lang.reflect.Field;
import java.lang.reflect.Method;
import java.lang.reflect.Modifier;
import java.nio.file.Files;
import java.nio.file.Path;
import java.util.ArrayList;
import java.util.List;
import java.util.Set;
import java.util.TreeSet;
import java.util.regex.Matcher;
import java.util.regex.Pattern;

/** The public face, what README.md tells, and the room, and the rules of LANGUAGE.md that can be seen from outside a method. */
public final class MoorGuidesFace extends Dues {
    private static final Path SOURCE = Path.of("src/main/java/MoorGuides.java");
    private static final Path README = Path.of("README.md");

    /** As the document writes them. */
    private static final String FACE = """
        public int feed(int a, int b, int c, int d, int e);
        public int text(int n);
        public int fault(int what);
        public int named(int what, int letters);
        public int look(int person, int what) throws IndexOutOfBoundsException, NoSuchElementException;
        public int part(int part, int what);
        public int knows(int person, int part, int night);
        public int steps(int from, int to);
        public int chance(int person, int part);
        public long law(int what, int person, int part);
        public boolean lose(int person, int part);
        public int nights(int n);
        public int led(int party, int what);
        public int way(int party, int k, int what);
        public int round(int party, int part);
        public int share(int night, int what);
        public int worth(int person, int night);
        public int stranger(int parts, int night);
        public int fewest(int parties, int what);
        public long order(int person, int parts, int what);
        public int ordered(int person, int parts, int k);
        public int pick(int master, int what);
        public int season(int master, int seed, int n, int what);
        public int claim(int person, int night, int part);
        public int wrongly();
        public int against(int claim);
        public int slide(int part);
        public int undo();
        public int keep();
        public int back();
        public int count(int what);
        """;

    private static void same(String call, Object got, Object want) {
        due(call + " is " + got + ", due is " + want + ": same", got.equals(want), true);
    }

    private static void atMost(String call, int got, int most) {
        due(call + " is " + got + ", at most " + most + ": kept", got <= most, true);
    }

    // ---- the face -------------------------------------------------------------------------------------------

    private static String told(Method method) {
        List<String> types = new ArrayList<>();
        for (Class<?> type : method.getParameterTypes()) {
            types.add(type.getSimpleName());
        }
        List<String> thrown = new ArrayList<>();
        for (Class<?> type : method.getExceptionTypes()) {
            thrown.add(type.getSimpleName());
        }
        return Modifier.toString(method.getModifiers()) + " " + method.getReturnType().getSimpleName() + " " + method.getName() + "(" + String.join(", ", types)
            + ")" + (thrown.isEmpty() ? "" : " throws " + String.join(", ", thrown)) + ";";
    }

    private static void face() {
        of("The public face");
        same("class", Modifier.toString(MoorGuides.class.getModifiers()), "public final");
        same("what it extends", MoorGuides.class.getSuperclass(), Object.class);
        due("interfaces", MoorGuides.class.getInterfaces().length, 0);
        Set<String> want = new TreeSet<>();
        for (String line : FACE.split("\n")) {
            want.add(line.replaceAll("int \\w+(?=[,)])", "int"));
        }
        Set<String> got = new TreeSet<>();
        for (Method method : MoorGuides.class.getDeclaredMethods()) {
            if (!Modifier.isPrivate(method.getModifiers())) {
                got.add(told(method));
            }
        }
        due("methods", got.size(), 31);
        same("methods", got, want);
        Constructor<?>[] made = MoorGuides.class.getDeclaredConstructors();
        due("constructors", made.length, 1);
        same("constructor", made[0].toString(), "public MoorGuides()");
        int seen = 0;
        for (Field field : MoorGuides.class.getDeclaredFields()) {
            if (!Modifier.isPrivate(field.getModifiers())) {
                seen++;
                same("constant", field.toString(), "public static final int MoorGuides.NONE");
            }
        }
        due("constants", seen, 1);
        due("NONE", MoorGuides.NONE, -1);
    }

    // ---- LANGUAGE.md ----------------------------------------------------------------------------------------

    private static List<Class<?>> classes() {
        List<Class<?>> all = new ArrayList<>(List.of(MoorGuides.class));
        all.addAll(List.of(MoorGuides.class.getDeclaredClasses()));
        return all;
    }

    private static void classesInside() {
        of("1, 2, 11: classes inside are private or package-visible and static; some twelve of them");
        atMost("classes", classes().size(), 13);
        for (Class<?> inside : MoorGuides.class.getDeclaredClasses()) {
            String kind = inside.getSimpleName();
            due(kind + " is static", Modifier.isStatic(inside.getModifiers()), true);
            due(kind + " is public or protected", (inside.getModifiers() & (Modifier.PUBLIC | Modifier.PROTECTED)) != 0, false);
            due(kind + " has classes inside", inside.getDeclaredClasses().length, 0);
        }
    }

    private static boolean isAllowed(Class<?> type) {
        Class<?> of = type;
        int dimensions = 0;
        while (of.isArray()) {
            of = of.getComponentType();
            dimensions++;
        }
        boolean own = of == MoorGuides.class || of.getEnclosingClass() == MoorGuides.class;
        if (dimensions > 0) {
            return own ? dimensions == 1 : of.isPrimitive() && dimensions <= 2;
        }
        return own || of.isPrimitive() || List.of(String.class, StringBuilder.class, Integer.class, List.class, ArrayList.class)
            .contains(of);
    }

    private static void fields() {
        of("3, 5, 11: fields of allowed types, static ones final constants, some twenty beside those");
        for (Class<?> kind : classes()) {
            int own = 0;
            for (Field field : kind.getDeclaredFields()) {
                String name = kind.getSimpleName() + "." + field.getName();
                due(name + " is allowed", isAllowed(field.getType()), true);
                if (!Modifier.isStatic(field.getModifiers())) {
                    own++;
                } else {
                    Class<?> type = field.getType();
                    due(name + " is final", Modifier.isFinal(field.getModifiers()), true);
                    due(name + " is a constant", type.isPrimitive() || type == String.class || type.isArray(), true);
                }
            }
            atMost("fields of " + kind.getSimpleName(), own, 21);
        }
    }

    private static void methods() {
        of("1, 11: no private method bears the name of a public one; seven parameters at most");
        Set<String> names = new TreeSet<>();
        for (Method method : MoorGuides.class.getDeclaredMethods()) {
            if (Modifier.isPublic(method.getModifiers())) {
                names.add(method.getName());
            }
        }
        for (Class<?> kind : classes()) {
            for (Method method : kind.getDeclaredMethods()) {
                String name = kind.getSimpleName() + "." + method.getName();
                due(name + " bears a name of the face", kind != MoorGuides.class && names.contains(method.getName()), false);
                if (kind == MoorGuides.class && !Modifier.isPublic(method.getModifiers())) {
                    due(name + " bears a name of the face", names.contains(method.getName()), false);
                }
                atMost("parameters of " + name, method.getParameterCount(), 7);
                due(name + " is synchronized", Modifier.isSynchronized(method.getModifiers()), false);
            }
        }
    }

    private static String withoutComments(String source) {
        return source.replaceAll("(?s)/\\*.*?\\*/", "").replaceAll("//[^\n]*", "");
    }

    private static void source(String source) {
        of("3 to 6, 10, 12, 13: what may not stand in the file");
        String code = withoutComments(source);
        for (String refused : List.of("->", "::", "\\bfinally\\b", "\\bsynchronized\\b", "\\bassert\\b", "\\bSystem\\.(?!arraycopy\\b)",
                "\\bpackage\\b", "\\bThread\\b", "\\bNaN\\b", "\\bcatch\\b", "\\bObject\\b", "\\bhashCode\\b", "\\btoString\\b",
                "Exact\\(", "\\bvar\\b", "\\bstatic \\{", "\\bclone\\(", "\" *\\+", "\\+ *\"")) {
            Matcher found = Pattern.compile(refused).matcher(code);
            due(refused + " stands in the file", found.find(), false);
        }
        Matcher imports = Pattern.compile("import ([\\w.]+);").matcher(code);
        while (imports.find()) {
            due("import of " + imports.group(1), Set.of("java.util.NoSuchElementException", "java.util.ArrayList",
                "java.util.List", "java.util.Arrays").contains(imports.group(1)), true);
        }
        Matcher texts = Pattern.compile("\"([^\"\n]*)\"").matcher(code);
        while (texts.find()) {
            due("signs of " + texts.group(), texts.group(1).chars().allMatch(c -> c >= 1 && c <= 127), true);
        }
        Matcher thrown = Pattern.compile("\\bthrow\\b(?! new (IndexOutOfBounds|NoSuchElement)Exception\\(\"[^\"]*\"\\);)").matcher(code);
        due("another thing is thrown", thrown.find(), false);
    }

    private static void lengths(String source) {
        of("11: methods stay short (some sixty lines)");
        String[] lines = source.split("\n");
        int methods = 0;
        for (int i = 0; i < lines.length; i++) {
            Matcher head = Pattern.compile("^( {4}| {8})\\S.*\\) (throws [\\w, ]+)?\\{$").matcher(lines[i]);
            if (head.find()) {
                int end = i;
                while (end < lines.length && !lines[end].equals(head.group(1) + "}")) {
                    end++;
                }
                methods++;
                atMost("lines of " + lines[i].trim(), end - i + 1, 60);
            }
        }
        due("methods are found", methods > 100, true);
    }

    // ---- the room -------------------------------------------------------------------------------------------

    private static long bytesMade() {
        return ((com.sun.management.ThreadMXBean) ManagementFactory.getThreadMXBean()).getCurrentThreadAllocatedBytes();
    }

    /** Some of each call, on a moor with as much of all as may be. */
    private static void callAll(MoorGuides x, int[][] fed, int length) {
        for (int[] five : fed) {
            x.feed(five[0], five[1], five[2], five[3], five[4]);
        }
        x.text(length);
        for (int i = 0; i < 6; i++) {
            x.fault(i);
            x.named(i, i);
            x.look(i, i);
            x.part(i, i);
            x.knows(i, i, i);
            x.steps(i, 7);
            x.chance(i, 7);
            x.law(i & 1, i, 7);
            x.lose(i, 7 - i);
            x.led(i, 0);
            x.way(i, i, 1);
            x.round(i, 6);
            x.share(i, -1);
            x.worth(i, 0);
            x.stranger(i, 0);
            x.fewest(255, 1);
            x.order(i, 255 - i, 0);
            x.ordered(i, 255, i);
            x.pick(i & 3, 0);
            x.season(i & 3, i, 50, 0);
            x.claim(i, 0, i);
            x.wrongly();
            x.against(i);
            x.slide(i);
            x.undo();
            x.keep();
            x.count(i);
            x.nights(i);
            x.back();
        }
    }

    private static void room() {
        of("All calls of one run live in one room");
        String text = longRow() + "person a knows a;person b knows b;person c forget 2;person d;person e;person f;"
            + many("party a h 0 9;", 8) + many("slide a 1;", 4) + "near 1;weather 1 2 3;"
            + "law out odds + around * 10 + times;law pick wanted * 5 - (night + cost);";
        int[][] fed = new int[(text.length() + 19) / 20][];
        for (int i = 0; i < fed.length; i++) {
            fed[i] = fiveOf(text, 20 * i);
        }
        due("is told", told(text).count(0), 8);
        MoorGuides x = new MoorGuides();
        callAll(x, fed, text.length());
        long before = bytesMade();
        callAll(x, fed, text.length());
        atMost("bytes of some 200 calls", (int) (bytesMade() - before), 2000);
        before = bytesMade();
        x = new MoorGuides();
        atMost("bytes of a new object", (int) (bytesMade() - before), 64000);
        due("nobody yet", x.count(1), 0);
    }

    // ---- README.md ------------------------------------------------------------------------------------------

    /** The calls of README.md's example, one behind another, and what it says that they answer. */
    private static void example(String readme) {
        of("README.md");
        MoorGuides x = new MoorGuides();
        due("feed", x.feed(0x70617274, 0x20612035, 0x303b7065, 0x72736f6e, 0x20783b20), 20);
        due("text", x.text(19), 2);
        due("lose", x.lose(0, 0), true);
        due("nights", x.nights(1), 1);
        due("look", x.look(0, 2), 1);
        for (String call : List.of("x.feed(0x70617274, 0x20612035, 0x303b7065, 0x72736f6e, 0x20783b20);", "x.text(19);",
                "x.lose(0, 0);", "x.nights(1);", "x.look(0, 2);")) {
            due("README.md tells " + call, readme.contains(call), true);
        }
        for (Method method : MoorGuides.class.getDeclaredMethods()) {
            if (Modifier.isPublic(method.getModifiers())) {
                due("README.md names " + method.getName(), readme.contains("`" + method.getName() + "("), true);
            }
        }
    }

    /** The text with a line of each kind, and calls that show that it is read as it looks. */
    private static void exampleText(String readme) {
        of("README.md's text");
        int from = readme.indexOf("```text\n") + 8;
        int to = readme.indexOf("```", Math.max(from, 0));
        due("README.md has a text", from >= 8 && to > from, true);
        if (from < 8 || to <= from) {
            return;
        }
        String text = readme.substring(from, to);
        for (String word : List.of("part", "person", "party", "weather", "slide", "near", "seed", "law out", "law pick",
                "beside", "knows", "cost", "from", "till", "forget")) {
            due("a line with " + word, text.contains(word + " "), true);
        }
        fine(text, 12);
        MoorGuides x = told(text);
        due("tor", x.named(0, letters("tor")), 2);
        due("beside fen", x.part(1, 1), 5);
        due("ben", x.named(1, letters("ben")), 1);
        due("odds + around * 10 - weather", x.chance(0, 2), 99);
        due("wanted * 5 - times", x.law(1, 0, 2), 5);
        due("a way with one hand", x.led(0, 0), 1);
    }

    /** Every test of the project is named there. */
    private static void testsNamed(String readme) throws IOException {
        try (var files = Files.list(Path.of("src/test/java"))) {
            for (Path file : files.toList()) {
                String name = file.getFileName().toString().replace(".java", "");
                due("README.md names " + name, readme.contains(name), true);
            }
        }
    }

    public static void main(String[] args) throws IOException {
        face();
        classesInside();
        fields();
        methods();
        room();
        String source = Files.readString(SOURCE);
        source(source);
        lengths(source);
        String readme = Files.readString(README);
        example(readme);
        exampleText(readme);
        testsNamed(readme);
        end();
    }
}
