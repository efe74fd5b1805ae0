import java.lang.reflect.Method;
import java.nio.file.Files;
import java.nio.file.Path;
import java.util.Arrays;
import java.util.regex.Matcher;
import java.util.regex.Pattern;

/** The calls that README.md shows, made one behind the other on one object, answer what it says there. */
public final class ReadmeTest {
    private static final Path README = Path.of("README.md");
    private static final Pattern BLOCK = Pattern.compile("(?s)```java\n(.*?)```");
    private static final Pattern CALL = Pattern.compile("x\\.(\\w+)\\(([^)]*)\\); +// (-?\\d+|[A-Z]+)(: .*)?");

    public static void main(String[] args) throws Exception {
        EchoFolk x = new EchoFolk();
        int right = 0;
        int wrong = 0;
        Matcher blocks = BLOCK.matcher(Files.readString(README));
        while (blocks.find()) {
            for (String line : blocks.group(1).split("\n")) {
                if (line.equals("EchoFolk x = new EchoFolk();")) continue;
                String fault = faultOf(x, line);
                if (fault.isEmpty()) right++;
                else wrong++;
                if (!fault.isEmpty()) System.out.println("ReadmeTest: " + line + " " + fault);
            }
        }
        System.out.println("ReadmeTest: " + right + " answers are as due, " + wrong + " are not");
        if (wrong != 0 || right == 0) System.exit(1);
    }

    private static String faultOf(EchoFolk x, String line) throws Exception {
        Matcher call = CALL.matcher(line);
        if (!call.matches()) return "is no call with its answer";
        Object[] numbers = call.group(2).isEmpty() ? new Object[0] : Arrays.stream(call.group(2).split(", ")).map(Integer::decode).toArray();
        Class<?>[] types = new Class<?>[numbers.length];
        Arrays.fill(types, int.class);
        Method method = EchoFolk.class.getMethod(call.group(1), types);
        int got = (int) method.invoke(x, numbers);
        boolean named = Character.isLetter(call.group(3).charAt(0));
        int want = named ? EchoFolk.class.getField(call.group(3)).getInt(null) : Integer.parseInt(call.group(3));
        return got == want ? "" : "answered " + got;
    }
}
