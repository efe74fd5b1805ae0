import java.lang.reflect.Constructor;
import java.lang.reflect.Field;
import java.lang.reflect.Method;
import java.lang.reflect.Modifier;
import java.nio.file.Files;
import java.nio.file.Path;
import java.util.Arrays;
import java.util.List;
import java.util.Set;
import java.util.TreeSet;
import java.util.regex.Matcher;
import java.util.regex.Pattern;
import java.util.stream.Collectors;

/** EchoFolk keeps to the rules of ../shared/LANGUAGE.md, as far as Rules can see them, and has the document's face and no other. */
public final class LanguageTest {
    private static final Path SOURCE = Path.of("src/main/java/EchoFolk.java");
    private static final Path DOCUMENT = Path.of("../shared/DOC.md");
    private static int looked = 0;
    private static int wrong = 0;

    public static void main(String[] args) throws Exception {
        for (String broken : Rules.brokenBy(Files.readString(SOURCE))) due(false, broken);
        brokenRulesAreSeen();
        othersAreSeenAmongThem();
        depthsAreSeen();
        face();
        constants();
        if (wrong != 0) System.exit(1);
        System.out.println("LanguageTest: the source keeps to the rules that are looked at; " + looked + " looks");
    }

    private static void due(boolean holds, String rule) {
        looked++;
        if (holds) return;
        wrong++;
        System.out.println("LanguageTest: " + rule);
    }

    /** So that the look at the source itself can fail: a class with this in it breaks that rule, and no other. */
    private static void seen(int rule, String member) throws Exception {
        List<String> broken = Rules.brokenBy("public final class EchoFolk {\n" + member + "\n}\n");
        boolean alone = !broken.isEmpty() && broken.stream().allMatch(b -> b.startsWith("rule " + rule + ","));
        due(alone, "rule " + rule + " is broken, and this is seen: " + broken + " by " + member);
    }

    private static void fine(String member) throws Exception {
        List<String> broken = Rules.brokenBy("public final class EchoFolk {\n" + member + "\n}\n");
        due(broken.isEmpty(), "no rule is broken, and yet: " + broken + " by " + member);
    }

    private static void brokenRulesAreSeen() throws Exception {
        fine("private int f(int n) { for (int i = 0; i < n; i++) if (i > 3) return i; return n == 0 ? 0 : 7 / n; }");
        fine("private static final int[] ROW = {1, 2};\nprivate final int[][] rows;\npublic EchoFolk() { rows = new int[2][3]; }");
        fine("private int f() {\n" + "\n".repeat(58) + "return 1; }");
        fine("private void f(boolean a, boolean b) { for (int i = 9; i >= 0 && (a || b); i -= 2) { } }");
        seen(1, "class Inner { }");
        seen(1, "public static class Shown { }");
        seen(1, "public int days(int n) { return n; }\nprivate static class Folk { int days() { return 1; } }");
        seen(2, "private static class A { static class B { } }");
        seen(3, "private double d;");
        seen(3, "private Object o;");
        seen(3, "private int[][][] deep;");
        seen(3, "private int f() { return (int) 1.5; }");
        seen(4, "private int f(int n) { return Math.addExact(n, 1); }");
        seen(4, "private long f() { return System.currentTimeMillis(); }");
        seen(4, "private int f(String s) { return s.compareTo(s); }");
        seen(4, "private String f() { return \"" + (char) 233 + "\"; }");
        seen(5, "private static int state;");
        seen(5, "private static final int[] ROW = new int[3];");
        seen(5, "private static final short[] ROW = {1, 2};");
        seen(5, "static { }");
        seen(6, "private void f() { assert true; }");
        seen(6, "private void f() { synchronized (this) { } }");
        seen(6, "private void f() { try { f2(); } finally { f2(); } }\nprivate void f2() { }");
        seen(6, "private boolean f(String a, String b) { return a == b; }");
        seen(6, "private static class A { }\nprivate static class B extends A { }\nprivate B f(A a) { return (B) a; }");
        seen(6, "public String toString() { return \"\"; }");
        seen(7, "private String f() { return null; }");
        seen(7, "private int f(int n) { return 7 / n; }");
        seen(7, "private int f(int n) { return 7 % (n + 1); }");
        seen(7, "private int f(int n) { return n == 0 ? 7 : 7 / 0; }");
        seen(7, "private int f(int n, int m) { n %= m; return n; }");
        seen(8, "private int f(int n) { return f(n - 1); }");
        seen(8, "private int f(int n) { return g(n - 1); }\nprivate int g(int n) { return f(n); }");
        seen(9, "private void f(int n) { while (n > 0) n--; }");
        seen(9, "private void f(int n) { do n--; while (n > 0); }");
        seen(9, "private void f() { for (;;) { } }");
        seen(9, "private void f(int n) { for (int i = 0; n > 3; i++) { } }");
        seen(9, "private void f(int n) { for (int i = 0; i < 3 || n > 3; i++) { } }");
        seen(9, "private void f(int n) { for (int i = 0; i < 3; n++) { } }");
        seen(9, "private void f(int n) { for (int i = 0; i < 3; i++) { i = n; } }");
        seen(9, "private void f(int n) { for (int i = 0; i < 3; i++) { i--; } }");
        seen(10, "private String f(String s) { return s + s; }");
        seen(11, "private int f(int a, int b, int c, int d, int e, int g, int h, int i) { return 1; }");
        seen(11, "private int f() {\n" + "\n".repeat(59) + "return 1; }");
        seen(11, "private static class A { int f() {\n" + "\n".repeat(59) + "return 1; } }");
        seen(11, members(12, "private static class A", " { }"));
        seen(11, members(21, "private int a", ";"));
        seen(12, "private int[] f() { return new int[3]; }");
        seen(12, "private static class A { }\nprivate A f() { return new A(); }");
    }

    /** What cannot stand in a class without breaking other rules as well is among what is seen. */
    private static void among(String broken, String source) throws Exception {
        List<String> all = Rules.brokenBy(source);
        due(all.stream().anyMatch(b -> b.matches(broken)), broken + " is seen among " + all + " by " + source);
    }

    private static void othersAreSeenAmongThem() throws Exception {
        String[][] members = {{"rule 2, .*: a lambda", "private void f() { Runnable r = () -> { }; }"},
            {"rule 2, .*: a method reference", "private void f() { Runnable r = this::g; }\nprivate void g() { }"},
            {"rule 2, .*: an anonymous class", "private static class A { }\nprivate final A a;\npublic EchoFolk() { a = new A() { }; }"},
            {"rule 2, .*: a class within .*", "private void f() { class Local { } }"},
            {"rule 3, .*: the type float", "private int f(float v) { return v > 1 ? 1 : 0; }"},
            {"rule 4, .*: something of the library.*", "private final String s;\npublic EchoFolk() { s = new String(); }"},
            {"rule 4, .*: a call that is not understood", "private final int n = f();\nprivate static int f() { return 1; }"},
            {"rule 6, .*: throw", "private void f() { throw new RuntimeException(); }"},
            {"rule 6, .*: throws", "private void f() throws RuntimeException { }"},
            {"rule 6, .*: catch", "private void f() { try { g(); } catch (RuntimeException e) { g(); } }\nprivate void g() { }"}};
        for (String[] m : members) among(m[0], "public final class EchoFolk {\n" + m[1] + "\n}\n");
        among("rule 4, .*: an import", "import java.util.List;\npublic final class EchoFolk { }\n");
        among("rule 1, .*: a second class.*", "public final class EchoFolk { }\nfinal class Other { }\n");
    }

    private static String members(int many, String ahead, String behind) {
        StringBuilder all = new StringBuilder();
        for (int i = 0; i < many; i++) all.append(ahead).append(i).append(behind).append('\n');
        return all.toString();
    }

    private static void depthsAreSeen() throws Exception {
        StringBuilder chain = new StringBuilder("private int f0() { return 1; }\n");
        for (int i = 1; i < 8; i++) chain.append("private int f" + i + "() { return f" + (i - 1) + "(); }\n");
        fine(chain.toString());
        seen(11, chain + "private int f8() { return f7(); }");
    }

    private static void face() throws Exception {
        Set<String> told = new TreeSet<>();
        Matcher lines = Pattern.compile("public int (\\w+)\\(([^)]*)\\);").matcher(Files.readString(DOCUMENT));
        while (lines.find()) told.add(lines.group(1) + "/" + (lines.group(2).isEmpty() ? 0 : lines.group(2).split(",").length));
        due(told.size() == 44, "the document's face is not read");
        Set<String> shown = new TreeSet<>();
        for (Method m : EchoFolk.class.getDeclaredMethods()) {
            if (Modifier.isPrivate(m.getModifiers())) continue;
            due(Modifier.isPublic(m.getModifiers()) && m.getReturnType() == int.class && !Modifier.isStatic(m.getModifiers()), m + " is not of the face");
            due(Arrays.stream(m.getParameterTypes()).allMatch(t -> t == int.class), m + " takes other things than ints");
            shown.add(m.getName() + "/" + m.getParameterCount());
        }
        due(shown.equals(told), "the face is " + shown);
        Constructor<?>[] constructors = EchoFolk.class.getDeclaredConstructors();
        due(constructors.length == 1 && Modifier.isPublic(constructors[0].getModifiers()) && constructors[0].getParameterCount() == 0, "the constructor");
        due(Modifier.isFinal(EchoFolk.class.getModifiers()) && Modifier.isPublic(EchoFolk.class.getModifiers()), "the class is not public and final");
    }

    private static void constants() throws Exception {
        String[] names = {"BAD", "NO", "FULL", "NONE", "NOTHING", "KIND", "INDEX", "SIZE"};
        int[] values = {-1000000001, -1000000002, -1000000003, -1000000005, -1000000011, -1000000012, -1000000013, -1000000014};
        for (int i = 0; i < names.length; i++) due(EchoFolk.class.getField(names[i]).getInt(null) == values[i], names[i]);
        List<String> shown = Arrays.stream(EchoFolk.class.getDeclaredFields()).filter(f -> !Modifier.isPrivate(f.getModifiers())).map(Field::getName).collect(Collectors.toList());
        due(shown.size() == names.length && shown.containsAll(List.of(names)), "fields of the face: " + shown);
    }
}
