import java.lang.reflect.InvocationTargetException;
import java.lang.reflect.Method;
import java.lang.reflect.Modifier;
import java.util.ArrayList;
import java.util.Arrays;
import java.util.Comparator;
import java.util.List;
import java.util.Random;

/** Holds EchoFolk against the model, over runs of calls by lot: all promises, with ordinary, edge and wrong numbers. */
public final class ModelTest {
    private static final int NONE = -1000000005;
    private static final int[] EDGES = {-1, 0, 1, 2, 3, 4, 5, 6, 7, 8, 9, 10, 11, 12, 13, 19, 20, 24, 25, 30, 31, 59, 60, 61, 96, 97, 99, 100, 101,
        200, 9999, 32767, 32768, 65536, 99999, 100000, -2, -99999, -100000, NONE, -1000000001, Integer.MAX_VALUE, Integer.MIN_VALUE};
    private static final String[] PIECES = {"e", "f", "w", "s", "l", "0", "7", "12", "9999", "12345", "x"};
    private static final String[] SIGNS = {"+", "-", "*", "/", "<", "=", ">", "&", "|", "+", "-", "%"};

    private final Random lot;
    private final Method[] methods;
    private final List<String> calls = new ArrayList<>();
    private EchoFolk folk;
    private Model model;

    private ModelTest(long seed) {
        lot = new Random(seed);
        methods = Arrays.stream(EchoFolk.class.getDeclaredMethods())
            .filter(m -> Modifier.isPublic(m.getModifiers()))
            .sorted(Comparator.comparing(Method::getName)).toArray(Method[]::new);
    }

    public static void main(String[] args) throws Exception {
        int runs = args.length > 0 ? Integer.parseInt(args[0]) : 3000;
        long from = args.length > 1 ? Long.parseLong(args[1]) : 0;
        int made = 0;
        for (long seed = from; seed < from + runs; seed++) {
            ModelTest test = new ModelTest(seed);
            if (!test.run()) {
                System.out.println("ModelTest: run " + seed + " is not as due; its last calls:");
                int n = test.calls.size();
                test.calls.subList(Math.max(0, n - 40), n).forEach(c -> System.out.println("  " + c));
                System.exit(1);
            }
            made += test.calls.size();
        }
        System.out.println("ModelTest: " + made + " calls in " + runs + " runs are as due");
    }

    private boolean run() throws Exception {
        folk = new EchoFolk();
        model = new Model();
        boolean wild = lot.nextInt(8) == 0;
        if (!wild && !begin()) return false;
        boolean withTexts = lot.nextBoolean();
        while (calls.size() < 512) if (!someCall(wild, withTexts)) return false;
        return true;
    }

    private boolean begin() throws Exception {
        if (!call("seed", lot.nextInt())) return false;
        if (lot.nextInt(6) == 0 && !nearTheLastDay()) return false;
        for (int i = lot.nextInt(9); i > 0; i--) {
            if (!call("speaker", lot.nextInt(lot.nextInt(4) == 0 ? 6 : 5), 1 + lot.nextInt(9), lot.nextInt(100))) return false;
        }
        if (lot.nextBoolean() && !call("deal", 1 + lot.nextInt(8))) return false;
        for (int i = 0; i < 8; i++) {
            for (int k = lot.nextInt(5); k > 0; k--) if (!call("speaks", i, word(), word(), word())) return false;
        }
        if (lot.nextInt(10) == 0 && !manyTexts()) return false;
        return call("talk", lot.nextBoolean() ? 100 : lot.nextInt(101));
    }

    private boolean nearTheLastDay() throws Exception {
        for (int i = 0; i < 99; i++) if (!call("days", 100)) return false;
        return call("days", 70 + lot.nextInt(31));
    }

    private boolean manyTexts() throws Exception {
        for (int i = 0; i < 20; i++) if (!text()) return false;
        return true;
    }

    private boolean someCall(boolean wild, boolean withTexts) throws Exception {
        int what = wild ? 99 : lot.nextInt(60);
        if (what == 0) return !withTexts || text();
        if (what == 1) return daysTold();
        if (what < 4) return saying();
        if (what == 4) return looks();
        if (what == 5) return sheetsAndSlots();
        if (what == 6) return lot.nextInt(8) > 0 || manyTold();
        if (what < 16) return call("speaks", lot.nextInt(8), word(), word(), word());
        if (what < 20) return call("says", lot.nextInt(8), lot.nextInt(8), lot.nextInt(6));
        if (what < 24) return whatWillBe();
        Method m = methods[lot.nextInt(methods.length)];
        if (!wild && m.getName().equals("forgets") && lot.nextInt(4) > 0) return true;
        int[] args = new int[m.getParameterCount()];
        for (int i = 0; i < args.length; i++) args[i] = number(wild);
        return call(m.getName(), args);
    }

    private boolean whatWillBe() throws Exception {
        int speaker = lot.nextInt(8);
        int n = 1 + lot.nextInt(60);
        return call("learns", speaker, n) && call("quiet", n, lot.nextInt(2)) && call("ears", speaker, n, lot.nextInt(2))
            && call("spreads", lot.nextInt(20)) && call("behind", n, lot.nextInt(11));
    }

    private boolean manyTold() throws Exception {
        for (int i = 0; i < 62; i++) if (!call("tell", lot.nextInt(3))) return false;
        return call("check", 30);
    }

    private boolean sheetsAndSlots() throws Exception {
        for (int i = 0; i < 2; i++) {
            int sheet = lot.nextInt(4);
            if (!call("sheet", sheet, lot.nextInt(2), lot.nextInt(25))) return false;
            for (int k = 0; k < 5; k++) {
                if (!call("mark", sheet, lot.nextInt(10), lot.nextInt(4) == 0 ? NONE : lot.nextInt(300) - 100)) return false;
            }
            if (lot.nextBoolean() && !call("pour", sheet)) return false;
            if (!call("reads", sheet) || !call("copy", sheet, lot.nextInt(10), lot.nextInt(4), lot.nextInt(10), lot.nextInt(10))) return false;
            if (!call("lay", lot.nextInt(5), lot.nextInt(4), lot.nextInt(4))) return false;
        }
        for (int slot = 0; slot < 5; slot++) {
            if (!call("ask", slot, lot.nextInt(6)) || !call("item", slot, lot.nextInt(10)) || !call("rest", slot, lot.nextInt(5) - 2)) return false;
        }
        return true;
    }

    private int word() {
        return lot.nextInt(8) == 0 ? -1 : lot.nextInt(lot.nextBoolean() ? 20 : 4);
    }

    private int number(boolean wild) {
        int sort = lot.nextInt(wild ? 12 : 24);
        if (sort == 0) return EDGES[lot.nextInt(EDGES.length)];
        if (sort == 1) return lot.nextInt(101);
        if (sort == 2) return lot.nextInt(20);
        return lot.nextInt(sort < 8 ? 8 : 4);
    }

    private boolean text() throws Exception {
        String text = lot.nextInt(10) < 7 ? goodText() : anyText();
        if (lot.nextInt(5) == 0) text = broken(text);
        if (text.length() > 96) text = text.substring(0, 96);
        if (!call("trim", 0)) return false;
        for (int i = 0; i < text.length(); i += 12) if (!call("feed", four(text, i), four(text, i + 4), four(text, i + 8))) return false;
        if (!call("trim", text.length()) || !call("text")) return false;
        for (int i = 0; i < 8; i++) if (!call("told", i, 6) || !call("fine", i)) return false;
        return call("fee");
    }

    private static int four(String text, int from) {
        int v = 0;
        for (int i = from; i < from + 4; i++) v = v << 8 | (i < text.length() ? text.charAt(i) : 'z');
        return v;
    }

    private String goodText() {
        int key = lot.nextInt(3);
        String names = new String[] {"efw", "sl", "sf"}[key];
        return blanks() + new String[] {"keep ", "fee ", "fine "}[key] + sum(names, 3 + lot.nextInt(3));
    }

    private String sum(String names, int depth) {
        int way = depth <= 0 ? lot.nextInt(2) : lot.nextInt(9);
        if (way == 0) return blanks() + lot.nextInt(lot.nextBoolean() ? 13 : 10000);
        if (way == 1) return blanks() + names.charAt(lot.nextInt(names.length()));
        if (way == 2) return blanks() + "!" + sum(names, depth - 2);
        if (way < 5) return blanks() + "(" + sum(names, depth - 1) + blanks() + ")";
        return sum(names, depth - 1) + blanks() + SIGNS[lot.nextInt(11)] + sum(names, depth - 1);
    }

    private String blanks() {
        return lot.nextInt(4) == 0 ? "  ".substring(lot.nextInt(2)) : "";
    }

    private String anyText() {
        StringBuilder s = new StringBuilder(new String[] {"keep", "fee", "fine", "fee ", "keep ", "fine "}[lot.nextInt(6)]);
        boolean deep = lot.nextInt(3) == 0;
        for (int i = lot.nextInt(30); i >= 0; i--) {
            if (deep && lot.nextInt(3) > 0) s.append(lot.nextBoolean() ? "(" : "!");
            s.append(blanks()).append(PIECES[lot.nextInt(PIECES.length)]);
            if (lot.nextInt(4) == 0) s.append(")");
            if (lot.nextInt(12) > 0) s.append(SIGNS[lot.nextInt(lot.nextInt(5) == 0 ? SIGNS.length : 4)]);
        }
        return s.toString();
    }

    private String broken(String text) {
        if (text.isEmpty()) return text;
        int at = lot.nextInt(text.length());
        int way = lot.nextInt(4);
        if (way == 0) return text.substring(0, at);
        if (way == 1) return text.substring(0, at) + text.substring(at + 1);
        String more = way == 2 ? String.valueOf((char) lot.nextInt(256)) : "()!<=>|&+-*/ 5sefwl".substring(lot.nextInt(19)).substring(0, 1);
        return text.substring(0, at) + more + text.substring(at);
    }

    /** Tells what the model says will be, at times with a number changed, left out or put to it. */
    private boolean daysTold() throws Exception {
        if (lot.nextInt(3) > 0 && !call("keep")) return false;
        int n = 1 + lot.nextInt(6);
        if (model.back() < 0) return call("check", n);
        if (!call("back")) return false;
        if (lot.nextBoolean() && !call("check", 1)) return false;
        int numbers = lot.nextInt(3) > 0 ? 2 * n : lot.nextInt(2 * n + 3);
        for (int i = 0; i < numbers; i++) {
            int right = model.behind(i / 2 + 1, i % 2 == 0 ? 0 : 2);
            if (!call("tell", lot.nextInt(20) == 0 ? right + 1 : right)) return false;
        }
        if (lot.nextBoolean() && !call("days", 1 + lot.nextInt(5))) return false;
        return call("check", n);
    }

    /** A sheet with a piece, or several, of what somebody heard. */
    private boolean saying() throws Exception {
        int sheet = lot.nextInt(4);
        int many = lot.nextInt(15);
        if (!call("sheet", sheet, lot.nextInt(2), many)) return false;
        int speaker = lot.nextInt(8);
        int k = lot.nextInt(4);
        for (int i = 0; i < many; i++) {
            if (lot.nextInt(4) == 0) k = lot.nextInt(8);
            int word = model.heard(speaker, k++ % 12);
            if (!call("mark", sheet, i, word >= 0 ? word : word())) return false;
        }
        for (int i = 0; i < 8; i++) if (!call("breaths", sheet, i) || !call("teacher", sheet, i, i % 2)) return false;
        return call("who", sheet) && call("wanting", sheet);
    }

    private boolean looks() throws Exception {
        for (int s = 0; s < 8; s++) {
            for (int what = 3; what < 6; what++) if (!call("told", s, what)) return false;
            if (!call("heard", s, lot.nextInt(12))) return false;
        }
        for (int i = 0; i < 5; i++) if (!call("folk", i)) return false;
        for (int i = 0; i < 7; i++) if (!call("count", i)) return false;
        return true;
    }

    private Method method(String name) {
        return Arrays.stream(methods).filter(m -> m.getName().equals(name)).findFirst().orElseThrow();
    }

    private boolean call(String name, int... args) throws Exception {
        if (calls.size() >= 512) return true;
        Method m = method(name);
        Object[] boxed = Arrays.stream(args).boxed().toArray();
        Object got;
        try {
            got = m.invoke(folk, boxed);
        } catch (InvocationTargetException e) {
            got = e.getCause().toString();
        }
        Object want = Model.class.getMethod(name, m.getParameterTypes()).invoke(model, boxed);
        calls.add(name + Arrays.toString(args) + " answered " + got + ", due is " + want);
        return want.equals(got);
    }
}
