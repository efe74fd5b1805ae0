import java.lang.reflect.Constructor;
import java.lang.reflect.Field;
import java.lang.reflect.Method;
import java.lang.reflect.Modifier;
import java.nio.file.Files;
import java.nio.file.Path;
import java.util.ArrayList;
import java.util.Arrays;
import java.util.List;
import java.util.Set;
import java.util.TreeSet;
import java.util.regex.Matcher;
import java.util.regex.Pattern;
import java.util.stream.Collectors;

/** The rules of ../shared/LANGUAGE.md, as far as they can be seen in the source and in the compiled class. */
public final class LanguageTest {
    private static final Path SOURCE = Path.of("src/main/java/EchoFolk.java");
    private static final Path DOCUMENT = Path.of("../shared/DOC.md");
    private static final String[] RULED_OUT = {"throw", "throws", "try", "catch", "synchronized", "assert", "import", "package", "protected",
        "transient", "volatile", "native", "yield", "equals", "hashCode", "toString", "NaN", "null", "double", "float"};
    private static final Set<String> LIBRARY = Set.of("System.arraycopy", "Math.min", "Math.max", "Integer.bitCount");
    private static int wrong = 0;

    public static void main(String[] args) throws Exception {
        String source = Files.readString(SOURCE);
        String code = withoutCommentsAndTexts(source);
        words(code);
        library(code);
        methodLengths(code);
        face();
        classes();
        if (wrong != 0) System.exit(1);
        System.out.println("LanguageTest: the source keeps to the rules that are looked at");
    }

    private static void due(boolean holds, String rule) {
        if (holds) return;
        wrong++;
        System.out.println("LanguageTest: " + rule);
    }

    private static String withoutCommentsAndTexts(String source) {
        return source.replaceAll("(?s)/\\*.*?\\*/", " ").replaceAll("//[^\n]*", " ").replaceAll("\"[^\"\n]*\"", "\"\"").replaceAll("'[^'\n]'", "' '");
    }

    private static void words(String code) {
        for (String word : RULED_OUT) due(!Pattern.compile("\\b" + word + "\\b").matcher(code).find(), "'" + word + "' is used");
        due(!code.contains("->"), "a lambda is used");
        due(!code.contains("::"), "a method reference is used");
        due(code.chars().allMatch(c -> c < 128), "a sign beyond 127 is used");
        Matcher whiles = Pattern.compile("\\bwhile\\b|for \\(;;|; ;").matcher(code);
        due(!whiles.find(), "a loop without a counter is used");
    }

    private static void library(String code) {
        Matcher calls = Pattern.compile("\\b(System|Math|Integer|Long|Arrays|Character|Thread|Runtime|Class)\\.(\\w+)").matcher(code);
        while (calls.find()) due(LIBRARY.contains(calls.group()), calls.group() + " is used");
    }

    private static void methodLengths(String code) {
        int start = 0;
        String[] lines = code.split("\n", -1);
        for (int i = 0; i < lines.length; i++) {
            if (lines[i].matches("( {4}| {8})[\\w\\[\\] ]+\\(.*\\) \\{")) start = i;
            if (lines[i].matches("( {4}| {8})}")) due(i - start < 60 || lines[i].startsWith("    }"), "a method is too long, line " + (i + 1));
        }
        Matcher parameters = Pattern.compile("\\(((?:\\w+(?:\\[])? \\w+(?:, )?)+)\\) \\{").matcher(code);
        while (parameters.find()) due(parameters.group(1).split(",").length <= 7, "too many parameters: " + parameters.group());
    }

    private static void face() throws Exception {
        Set<String> told = new TreeSet<>();
        Matcher lines = Pattern.compile("public int (\\w+)\\(([^)]*)\\);").matcher(Files.readString(DOCUMENT));
        while (lines.find()) told.add(lines.group(1) + "/" + (lines.group(2).isEmpty() ? 0 : lines.group(2).split(",").length));
        due(told.size() == 44, "the document's face is not read");
        Set<String> shown = new TreeSet<>();
        Set<String> hidden = new TreeSet<>();
        for (Method m : EchoFolk.class.getDeclaredMethods()) {
            if (Modifier.isPrivate(m.getModifiers())) {
                hidden.add(m.getName());
                continue;
            }
            due(Modifier.isPublic(m.getModifiers()) && m.getReturnType() == int.class && !Modifier.isStatic(m.getModifiers()), m + " is not of the face");
            due(Arrays.stream(m.getParameterTypes()).allMatch(t -> t == int.class), m + " takes other things than ints");
            shown.add(m.getName() + "/" + m.getParameterCount());
        }
        due(shown.equals(told), "the face is " + shown);
        for (Class<?> c : EchoFolk.class.getDeclaredClasses()) for (Method m : c.getDeclaredMethods()) hidden.add(m.getName());
        for (String s : shown) due(!hidden.contains(s.substring(0, s.indexOf('/'))), "a hidden method is named " + s);
        Constructor<?>[] constructors = EchoFolk.class.getDeclaredConstructors();
        due(constructors.length == 1 && Modifier.isPublic(constructors[0].getModifiers()) && constructors[0].getParameterCount() == 0, "the constructor");
        due(Modifier.isFinal(EchoFolk.class.getModifiers()), "the class is not final");
        constants();
    }

    private static void constants() throws Exception {
        String[] names = {"BAD", "NO", "FULL", "NONE", "NOTHING", "KIND", "INDEX", "SIZE"};
        int[] values = {-1000000001, -1000000002, -1000000003, -1000000005, -1000000011, -1000000012, -1000000013, -1000000014};
        for (int i = 0; i < names.length; i++) due(EchoFolk.class.getField(names[i]).getInt(null) == values[i], names[i]);
        List<String> shown = Arrays.stream(EchoFolk.class.getDeclaredFields()).filter(f -> !Modifier.isPrivate(f.getModifiers())).map(Field::getName).collect(Collectors.toList());
        due(shown.size() == names.length && shown.containsAll(List.of(names)), "fields of the face: " + shown);
    }

    private static void classes() {
        List<Class<?>> all = new ArrayList<>(List.of(EchoFolk.class.getDeclaredClasses()));
        for (Class<?> c : all) {
            due(Modifier.isStatic(c.getModifiers()) && !Modifier.isPublic(c.getModifiers()), c + " is not static, or public");
            due(c.getDeclaredClasses().length == 0, c + " has classes inside");
        }
        all.add(EchoFolk.class);
        due(all.size() <= 12, "there are " + all.size() + " classes");
        for (Class<?> c : all) {
            int fields = 0;
            for (Field f : c.getDeclaredFields()) {
                boolean constant = Modifier.isStatic(f.getModifiers());
                due(!constant || Modifier.isFinal(f.getModifiers()), f + " is static and not final");
                if (!constant) fields++;
            }
            due(fields <= 20, c + " has " + fields + " fields");
        }
    }
}
