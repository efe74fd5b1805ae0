import java.util.ArrayList;
import java.util.Arrays;
import java.util.List;
import java.util.TreeSet;
import java.util.function.Consumer;

/** The document once more, written slowly and in another way, so that EchoFolk can be held against it. */
public final class Model {
    private static final int BAD = -1000000001, NO = -1000000002, FULL = -1000000003, NONE = -1000000005;
    private static final int NOTHING = -1000000011, KIND = -1000000012, INDEX = -1000000013, SIZE = -1000000014;

    /** The kinds as the document has them: classes under one another. */
    private static class Plain {
        int keeps(int given) { return Math.max(0, Math.min(12, given)); }
        int takes(int ear) { return ear; }
        int goes() { return 3; }
        int worth(int fame) { return fame; }
    }

    private static class Child extends Plain {
        @Override int keeps(int given) { return super.keeps(given) / 2; }
        @Override int takes(int ear) { return super.takes(ear) + 2; }
        @Override int goes() { return 2; }
        @Override int worth(int fame) { return super.worth(fame) + 6; }
    }

    private static class Elder extends Plain {
        @Override int keeps(int given) { return Math.max(0, super.keeps(given) - 2); }
        @Override int takes(int ear) { return super.takes(ear) / 2; }
        @Override int goes() { return 4; }
        @Override int worth(int fame) { return 99 - fame; }
    }

    private static final class Lover extends Child {
        @Override int keeps(int given) { return super.keeps(given) + 3; }
        @Override int goes() { return super.goes() + 2; }
        @Override int worth(int fame) { return 2 * super.worth(fame); }
    }

    private static final class Liar extends Elder {
        @Override int takes(int ear) { return super.takes(ear) + 1; }
        @Override int goes() { return super.goes() + 5; }
        @Override int worth(int fame) { return super.worth(fame) - 8; }
    }

    private static final class Deaf extends Plain {
        @Override int keeps(int given) { return 0; }
        @Override int takes(int ear) { return 0; }
        @Override int worth(int fame) { return 1; }
    }

    private static final Plain[] DOES = {new Plain(), new Child(), new Elder(), new Lover(), new Liar(), new Deaf()};

    private static final class One {
        int kind, ear, fame, said;
        List<Integer> heard = new ArrayList<>();

        One(int kind, int ear, int fame) {
            this.kind = kind;
            this.ear = ear;
            this.fame = fame;
        }

        One(One other) {
            this(other.kind, other.ear, other.fame);
            said = other.said;
            heard = new ArrayList<>(other.heard);
        }

        int set() {
            return heard.stream().mapToInt(w -> 1 << w).reduce(0, (a, b) -> a | b);
        }
    }

    private static final class World {
        List<One> ones = new ArrayList<>();
        List<List<String>> texts = new ArrayList<>();
        int talk = 50, spoken, lost, day, z = 1;

        World() { }

        World(World other) {
            for (One one : other.ones) ones.add(new One(one));
            texts = new ArrayList<>(other.texts);
            talk = other.talk;
            spoken = other.spoken;
            lost = other.lost;
            day = other.day;
            z = other.z;
        }

        World behind(int n) {
            World then = new World(this);
            for (int i = 0; i < n; i++) then.dayPasses();
            return then;
        }

        int draw(int by) {
            z = z * 1103515245 + 12345;
            return (z >>> 8) % by;
        }

        int why(String key) {
            for (int i = texts.size() - 1; i >= 0; i--) if (texts.get(i).get(0).equals(key)) return i;
            return NONE;
        }

        int given(String key, int without, String names, int... values) {
            int text = why(key);
            return text == NONE ? without : Sum.value(texts.get(text).subList(1, texts.get(text).size()), names, values);
        }

        int keeps(One one) {
            return DOES[one.kind].keeps(given("keep", 12, "efw", one.ear, one.fame, one.heard.size()));
        }

        void hears(One one, List<Integer> row) {
            int takes = DOES[one.kind].takes(one.ear);
            one.heard.addAll(new ArrayList<>(row.subList(0, Math.min(takes, row.size()))));
            while (one.heard.size() > keeps(one)) {
                one.heard.remove(0);
                lost++;
            }
        }

        int says(One one, One other, int k) {
            List<Integer> piece = one.heard.subList(k, Math.min(one.heard.size(), k + DOES[one.kind].goes()));
            int many = piece.size();
            hears(other, piece);
            one.said += many;
            spoken++;
            return many;
        }

        void dayPasses() {
            if (draw(100) < talk && ones.size() > 1) {
                One one = ones.get(draw(ones.size()));
                List<One> others = new ArrayList<>(ones);
                others.remove(one);
                One other = others.get(draw(others.size()));
                if (!one.heard.isEmpty()) says(one, other, draw(one.heard.size()));
            }
            day++;
        }

        int together() {
            return ones.stream().mapToInt(o -> o.heard.size()).sum();
        }
    }

    /** What a good text gives: split at the loosest sign that stands last, brackets and all. */
    private static final class Sum {
        private static final String[] LOOSEST_FIRST = {"|", "&", "<=>", "+-", "*/"};

        static int value(List<String> e, String names, int[] values) {
            for (String signs : LOOSEST_FIRST) {
                int open = 0;
                for (int i = e.size() - 1; i > 0; i--) {
                    if (e.get(i).equals(")")) open++;
                    if (e.get(i).equals("(")) open--;
                    if (open == 0 && signs.contains(e.get(i))) {
                        return join(e.get(i), value(e.subList(0, i), names, values), value(e.subList(i + 1, e.size()), names, values));
                    }
                }
            }
            String first = e.get(0);
            if (first.equals("!")) return value(e.subList(1, e.size()), names, values) == 0 ? 1 : 0;
            if (first.equals("(")) return value(e.subList(1, e.size() - 1), names, values);
            return Character.isDigit(first.charAt(0)) ? Integer.parseInt(first) : values[names.indexOf(first)];
        }

        private static int join(String sign, int a, int b) {
            return switch (sign) {
                case "|" -> (a != 0) | (b != 0) ? 1 : 0;
                case "&" -> (a != 0) & (b != 0) ? 1 : 0;
                case "<" -> a < b ? 1 : 0;
                case "=" -> a == b ? 1 : 0;
                case ">" -> a > b ? 1 : 0;
                case "+" -> (int) ((long) a + b);
                case "-" -> (int) ((long) a - b);
                case "*" -> (int) ((long) a * b);
                default -> b == 0 ? 0 : (int) ((long) a / b);
            };
        }
    }

    /** Tells a text's words and signs, or where no text goes on, by what may come next. */
    private static final class Reading {
        final List<String> tokens = new ArrayList<>();
        int fault = -1;
        private String names;
        private boolean wantsPiece;
        /** By open bracket: may a test's sign come still; how many ! are open around it. */
        private final List<Boolean> mayTest = new ArrayList<>();
        private final List<Integer> notsAround = new ArrayList<>();
        private int nots;

        Reading(String tape) {
            int at = 0;
            while (at < tape.length() && fault < 0) {
                if (tape.charAt(at) == ' ') {
                    at++;
                    continue;
                }
                int end = at + 1;
                while (isWord(tape.charAt(at)) != 0 && end < tape.length() && isWord(tape.charAt(end)) == isWord(tape.charAt(at))) end++;
                String token = tape.substring(at, end);
                boolean glued = at > 0 && isWord(token.charAt(0)) != 0 && isWord(tape.charAt(at - 1)) != 0;
                if (glued || !goesOn(token)) fault = at;
                tokens.add(token);
                at = end;
            }
            if (fault < 0 && (tokens.isEmpty() || wantsPiece || mayTest.size() > 1)) fault = tape.length();
        }

        private static int isWord(char c) {
            return c >= 'a' && c <= 'z' ? 1 : c >= '0' && c <= '9' ? 2 : 0;
        }

        private boolean goesOn(String token) {
            if (tokens.isEmpty()) return key(token);
            return wantsPiece ? piece(token) : behindPiece(token);
        }

        private boolean key(String token) {
            names = token.equals("keep") ? "efw" : token.equals("fee") ? "sl" : token.equals("fine") ? "sf" : null;
            mayTest.add(true);
            notsAround.add(0);
            wantsPiece = true;
            return names != null;
        }

        private boolean piece(String token) {
            if (token.equals("(")) {
                mayTest.add(true);
                notsAround.add(nots);
                return mayTest.size() <= 9;
            }
            if (token.equals("!")) {
                nots++;
                return nots <= 8;
            }
            wantsPiece = false;
            nots = notsAround.get(notsAround.size() - 1);
            return token.matches("[0-9]{1,4}") || token.matches("[a-z]") && names.contains(token);
        }

        private boolean behindPiece(String token) {
            int last = mayTest.size() - 1;
            if (token.equals(")")) {
                mayTest.remove(last);
                notsAround.remove(last);
                if (last == 0) return false;
                nots = notsAround.get(last - 1);
                return true;
            }
            wantsPiece = true;
            if (token.equals("|") || token.equals("&")) mayTest.set(last, true);
            else if ("<=>".contains(token)) {
                if (!mayTest.get(last)) return false;
                mayTest.set(last, false);
            }
            return "|&<=>+-*/".contains(token);
        }
    }

    private World now = new World();
    private World image;
    private final Integer[][] sheets = new Integer[4][];
    private final boolean[] floats = new boolean[4];
    private final Object[] slots = new Object[5];
    private String tape = "";
    private List<Integer> waiting = new ArrayList<>();

    private boolean no(int speaker) { return speaker < 0 || speaker >= now.ones.size(); }

    private static boolean out(int v, int least, int most) { return v < least || v > most; }

    private static boolean isOf(int kind, int wanted) { return DOES[wanted].getClass().isInstance(DOES[kind]); }

    public int speaker(int kind, int ear, int fame) {
        if (out(kind, 0, 5) || out(ear, 1, 9) || out(fame, 0, 99)) return BAD;
        if (now.ones.size() == 8) return FULL;
        now.ones.add(new One(kind, ear, fame));
        return now.ones.size() - 1;
    }

    public int told(int speaker, int what) {
        if (no(speaker) || out(what, 0, 9)) return BAD;
        One one = now.ones.get(speaker);
        Plain does = DOES[one.kind];
        return new int[] {one.kind, one.ear, one.fame, one.said, one.heard.size(), one.set(), now.keeps(one), does.takes(one.ear), does.goes(), does.worth(one.fame)}[what];
    }

    public int heard(int speaker, int k) {
        if (no(speaker) || out(k, 0, 11)) return BAD;
        List<Integer> heard = now.ones.get(speaker).heard;
        return k < heard.size() ? heard.get(k) : NONE;
    }

    public int as(int speaker, int kind) {
        if (no(speaker) || out(kind, 0, 5)) return BAD;
        One one = now.ones.get(speaker);
        return isOf(one.kind, kind) ? one.fame : KIND;
    }

    public int turns(int speaker, int kind) {
        if (no(speaker) || out(kind, 0, 5)) return BAD;
        int was = now.ones.get(speaker).kind;
        now.ones.get(speaker).kind = kind;
        return was;
    }

    public int set(int speaker, int what, int v) {
        if (no(speaker) || out(what, 1, 2) || out(v, what == 1 ? 1 : 0, what == 1 ? 9 : 99)) return BAD;
        int was = told(speaker, what);
        if (what == 1) now.ones.get(speaker).ear = v;
        else now.ones.get(speaker).fame = v;
        return was;
    }

    public int speaks(int speaker, int a, int b, int c) {
        if (no(speaker) || out(a, -1, 19) || out(b, -1, 19) || out(c, -1, 19)) return BAD;
        List<Integer> row = new ArrayList<>(List.of(a, b, c));
        row.removeIf(w -> w < 0);
        now.hears(now.ones.get(speaker), row);
        return now.ones.get(speaker).heard.size();
    }

    public int says(int speaker, int other, int k) {
        if (no(speaker) || no(other) || speaker == other || out(k, 0, 11)) return BAD;
        if (heard(speaker, k) == NONE) return NONE;
        return now.says(now.ones.get(speaker), now.ones.get(other), k);
    }

    public int forgets(int speaker) {
        if (no(speaker)) return BAD;
        int many = now.ones.get(speaker).heard.size();
        now.ones.get(speaker).heard.clear();
        now.lost += many;
        return many;
    }

    public int talk(int v) {
        if (out(v, 0, 100)) return BAD;
        int was = now.talk;
        now.talk = v;
        return was;
    }

    public int deal(int n) {
        if (out(n, 1, 8)) return BAD;
        int came = Math.min(n, 8 - now.ones.size());
        for (int i = 0; i < came; i++) {
            int kind = now.draw(6), ear = 1 + now.draw(9), fame = now.draw(100);
            now.ones.add(new One(kind, ear, fame));
        }
        return came;
    }

    public int seed(int v) {
        int was = now.z;
        now.z = v;
        return was;
    }

    public int days(int n) {
        if (out(n, 1, 100)) return BAD;
        int was = now.spoken;
        now = now.behind(Math.min(n, 9999 - now.day));
        return now.spoken - was;
    }

    public int folk(int what) {
        return switch (what) {
            case 0 -> now.spoken;
            case 1 -> now.lost;
            case 2 -> now.together();
            case 3 -> now.ones.stream().mapToInt(One::set).reduce(0, (a, b) -> a | b);
            case 4 -> now.ones.stream().mapToInt(One::set).reduce((a, b) -> a & b).orElse(0);
            default -> BAD;
        };
    }

    private List<Integer> saying(int sheet) {
        List<Integer> words = new ArrayList<>();
        for (Integer place : sheets[sheet]) {
            if (words.size() == 12 || place == null || out(place, 0, 19)) break;
            words.add(place);
        }
        return words;
    }

    /** Over all ways to cut the saying into pieces. */
    private static int fewest(List<Integer> saying, One one) {
        int[] fewest = new int[saying.size() + 1];
        for (int end = 1; end <= saying.size(); end++) {
            fewest[end] = 1000;
            for (int from = Math.max(0, end - DOES[one.kind].goes()); from < end; from++) {
                boolean stands = java.util.Collections.indexOfSubList(one.heard, saying.subList(from, end)) >= 0;
                if (stands) fewest[end] = Math.min(fewest[end], fewest[from] + 1);
            }
        }
        return fewest[saying.size()] >= 1000 ? NONE : fewest[saying.size()];
    }

    public int breaths(int sheet, int speaker) {
        if (out(sheet, 0, 3) || no(speaker)) return BAD;
        if (sheets[sheet] == null) return NOTHING;
        if (saying(sheet).isEmpty()) return SIZE;
        return fewest(saying(sheet), now.ones.get(speaker));
    }

    public int wanting(int sheet) {
        if (out(sheet, 0, 3)) return BAD;
        if (sheets[sheet] == null) return NOTHING;
        return saying(sheet).stream().filter(w -> now.ones.stream().noneMatch(o -> o.heard.contains(w))).findFirst().orElse(NONE);
    }

    public int who(int sheet) {
        if (out(sheet, 0, 3)) return BAD;
        if (sheets[sheet] == null) return NOTHING;
        if (saying(sheet).isEmpty()) return SIZE;
        int set = 0;
        for (int i = 0; i < now.ones.size(); i++) set += breaths(sheet, i) == NONE ? 0 : 1 << i;
        return set;
    }

    public int teacher(int sheet, int speaker, int what) {
        if (out(sheet, 0, 3) || no(speaker) || out(what, 0, 1)) return BAD;
        if (sheets[sheet] == null) return NOTHING;
        if (saying(sheet).isEmpty()) return SIZE;
        TreeSet<Integer> ways = new TreeSet<>();
        for (int other = 0; other < now.ones.size(); other++) {
            if (other == speaker) continue;
            World then = new World(now);
            then.hears(then.ones.get(speaker), then.ones.get(other).heard);
            int breaths = fewest(saying(sheet), then.ones.get(speaker));
            if (breaths != NONE) ways.add(breaths * 8 + other);
        }
        if (ways.isEmpty()) return NONE;
        return what == 0 ? ways.first() % 8 : ways.first() / 8;
    }

    public int behind(int n, int what) {
        if (out(n, 0, 100) || out(what, 0, 2 + now.ones.size())) return BAD;
        World then = now.behind(n);
        return switch (what) {
            case 0 -> then.spoken;
            case 1 -> then.lost;
            case 2 -> then.together();
            default -> then.ones.get(what - 3).set();
        };
    }

    public int spreads(int word) {
        if (out(word, 0, 19)) return BAD;
        World then = new World(now);
        for (int n = 0; n <= 200; n++) {
            if (then.ones.stream().allMatch(o -> o.kind == 5 || o.heard.contains(word))) return n;
            then.dayPasses();
        }
        return NONE;
    }

    public int learns(int speaker, int n) {
        if (no(speaker) || out(n, 1, 100)) return BAD;
        TreeSet<Integer> words = new TreeSet<>(now.behind(n).ones.get(speaker).heard);
        words.removeAll(now.ones.get(speaker).heard);
        return words.isEmpty() ? NONE : words.first();
    }

    private int best(int from, int to, int n, int what, java.util.function.BiConsumer<World, Integer> change, java.util.function.ToIntFunction<World> cost) {
        int best = -1, least = Integer.MAX_VALUE;
        for (int i = to; i >= from; i--) {
            World then = new World(now);
            change.accept(then, i);
            int its = cost.applyAsInt(then.behind(n));
            if (its <= least) {
                least = its;
                best = i;
            }
        }
        return what == 0 ? best : least;
    }

    public int quiet(int n, int what) {
        if (out(n, 1, 100) || out(what, 0, 1)) return BAD;
        if (now.ones.isEmpty()) return NONE;
        return best(0, now.ones.size() - 1, n, what, (w, i) -> w.ones.get(i).heard.clear(), w -> w.spoken);
    }

    public int ears(int speaker, int n, int what) {
        if (no(speaker) || out(n, 1, 60) || out(what, 0, 1)) return BAD;
        int answer = best(1, 9, n, what, (w, i) -> w.ones.get(speaker).ear = i, w -> -new TreeSet<>(w.ones.get(speaker).heard).size());
        return what == 0 ? answer : -answer;
    }

    public int fee() {
        return now.given("fee", now.spoken, "sl", now.spoken, now.lost);
    }

    public int fine(int speaker) {
        if (no(speaker)) return BAD;
        One one = now.ones.get(speaker);
        return now.given("fine", one.said, "sf", one.said, one.fame);
    }

    public int feed(int a, int b, int c) {
        if (tape.length() > 84) return FULL;
        byte[] bytes = java.nio.ByteBuffer.allocate(12).putInt(a).putInt(b).putInt(c).array();
        tape += new String(bytes, java.nio.charset.StandardCharsets.ISO_8859_1);
        return tape.length();
    }

    public int trim(int n) {
        if (out(n, 0, tape.length())) return BAD;
        tape = tape.substring(0, n);
        return n;
    }

    public int text() {
        Reading reading = new Reading(tape);
        tape = "";
        if (reading.fault >= 0) return -100 - reading.fault;
        if (now.texts.size() == 14) return FULL;
        now.texts.add(reading.tokens);
        return now.texts.size() - 1;
    }

    public int textTold(int text, int what) {
        if (out(text, 0, now.texts.size() - 1) || out(what, 0, 1)) return BAD;
        List<String> tokens = now.texts.get(text);
        if (what == 0) return List.of("keep", "fee", "fine").indexOf(tokens.get(0));
        return (int) tokens.stream().filter(t -> t.matches("[0-9]+|[a-z]+")).count() - 1;
    }

    public int why(int key) {
        return out(key, 0, 2) ? BAD : now.why(List.of("keep", "fee", "fine").get(key));
    }

    public int sheet(int sheet, int sort, int n) {
        if (out(sheet, 0, 3) || out(sort, -1, 1)) return BAD;
        if (sort == -1) {
            sheets[sheet] = null;
            return 0;
        }
        if (n > 24) return BAD;
        if (n < 0) return SIZE;
        sheets[sheet] = new Integer[n];
        Arrays.fill(sheets[sheet], 0);
        floats[sheet] = sort == 1;
        return n;
    }

    public int mark(int sheet, int place, int v) {
        if (out(sheet, 0, 3)) return BAD;
        if (sheets[sheet] == null) return NOTHING;
        if (out(place, 0, sheets[sheet].length - 1)) return INDEX;
        if (v == NONE && !floats[sheet]) return KIND;
        if (v != NONE && floats[sheet] && out(v, -99999, 99999)) return BAD;
        sheets[sheet][place] = v == NONE ? null : floats[sheet] ? Integer.valueOf(v) : Integer.valueOf((short) v);
        return 1;
    }

    public int pour(int sheet) {
        if (out(sheet, 0, 3)) return BAD;
        if (sheets[sheet] == null) return NOTHING;
        int[] was = now.ones.stream().mapToInt(o -> o.fame).toArray();
        for (int i = 0; i < was.length && i < sheets[sheet].length; i++) {
            Integer v = sheets[sheet][i];
            if (v != null) now.ones.get(i).fame = v < 0 ? 0 : v > 99 ? 99 : v;
        }
        int otherwise = 0;
        for (int i = 0; i < was.length; i++) otherwise += was[i] != now.ones.get(i).fame ? 1 : 0;
        return otherwise;
    }

    public int reads(int sheet) {
        if (out(sheet, 0, 3)) return BAD;
        if (sheets[sheet] == null) return NOTHING;
        for (int i = 0; i < sheets[sheet].length; i++) {
            Integer v = sheets[sheet][i];
            if (v != null && (no(i) || v != now.ones.get(i).heard.size())) return i;
        }
        return NONE;
    }

    public int copy(int from, int place, int to, int at, int many) {
        if (out(from, 0, 3) || out(to, 0, 3)) return BAD;
        if (sheets[from] == null || sheets[to] == null) return NOTHING;
        if (floats[from] != floats[to]) return KIND;
        try {
            System.arraycopy(sheets[from], place, sheets[to], at, many);
        } catch (IndexOutOfBoundsException e) {
            return INDEX;
        }
        return many;
    }

    private static int thing(Object o) {
        return o == null ? 0 : o instanceof One ? 1 : o instanceof Integer[] ? 2 : 3;
    }

    public int lay(int slot, int thing, int k) {
        if (out(slot, 0, 4) || out(thing, 0, 3) || thing == 1 && no(k) || thing == 2 && out(k, 0, 3)) return BAD;
        if (thing == 2 && sheets[k] == null) return NOTHING;
        int was = thing(slots[slot]);
        slots[slot] = thing == 0 ? null : thing == 1 ? new One(now.ones.get(k)) : thing == 2 ? sheets[k].clone() : (Object) k;
        return was;
    }

    public int ask(int slot, int kind) {
        if (out(slot, 0, 4) || out(kind, 0, 5)) return BAD;
        if (slots[slot] == null) return NOTHING;
        return slots[slot] instanceof One one && isOf(one.kind, kind) ? DOES[one.kind].worth(one.fame) : KIND;
    }

    public int item(int slot, int place) {
        if (out(slot, 0, 4)) return BAD;
        if (slots[slot] == null) return NOTHING;
        if (!(slots[slot] instanceof Integer[] row)) return KIND;
        if (out(place, 0, row.length - 1)) return INDEX;
        return row[place] == null ? KIND : row[place];
    }

    public int rest(int slot, int n) {
        if (out(slot, 0, 4)) return BAD;
        if (slots[slot] == null) return NOTHING;
        if (!(slots[slot] instanceof Integer number)) return KIND;
        return n == 0 ? NO : (int) ((long) number % n);
    }

    public int tell(int v) {
        if (waiting.size() == 60) return FULL;
        waiting.add(v);
        return waiting.size();
    }

    public int check(int n) {
        List<Integer> told = waiting;
        waiting = new ArrayList<>();
        if (out(n, 1, 30)) return BAD;
        if (image == null) return NO;
        List<Integer> right = new ArrayList<>();
        World then = new World(image);
        Consumer<World> row = w -> right.addAll(List.of(w.spoken, w.together()));
        for (int i = 0; i < n && image.day + i < 9999; i++) {
            then = then.behind(1);
            row.accept(then);
        }
        if (told.equals(right)) return 0;
        int same = 0;
        while (same < told.size() && same < right.size() && told.get(same).equals(right.get(same))) same++;
        return 1 + same;
    }

    public int keep() {
        image = new World(now);
        return now.ones.size();
    }

    public int back() {
        if (image == null) return NO;
        now = new World(image);
        return now.ones.size();
    }

    public int count(int what) {
        int[] counts = {now.ones.size(), now.day, now.talk, now.texts.size(), waiting.size(), tape.length(), now.z};
        return out(what, 0, 6) ? BAD : counts[what];
    }
}
