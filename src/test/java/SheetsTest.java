/** Promises 32 to 40. */
public final class SheetsTest {
    private static final int BAD = -1000000001, NO = -1000000002, NONE = -1000000005;
    private static final int NOTHING = -1000000011, KIND = -1000000012, INDEX = -1000000013, SIZE = -1000000014;
    private static final int MOST = Integer.MAX_VALUE, LEAST = Integer.MIN_VALUE;
    private static final Due due = new Due("SheetsTest");

    public static void main(String[] args) {
        sheet();
        mark();
        pour();
        reads();
        copy();
        lay();
        ask();
        item();
        rest();
        due.end();
    }

    /** A place of a sheet, by slot 4. */
    private static int place(EchoFolk x, int sheet, int place) {
        x.lay(4, 2, sheet);
        return x.item(4, place);
    }

    private static void sheet() {
        due.promise(32);
        EchoFolk x = new EchoFolk();
        due.is("sheet(0, 0, 24)", x.sheet(0, 0, 24), 24);
        due.is("sheet(3, 1, 0)", x.sheet(3, 1, 0), 0);
        due.is("sheet(0, 0, 25)", x.sheet(0, 0, 25), BAD);
        due.is("sheet(0, 1, MOST)", x.sheet(0, 1, MOST), BAD);
        due.is("sheet(0, 0, -1)", x.sheet(0, 0, -1), SIZE);
        due.is("sheet(0, 1, LEAST)", x.sheet(0, 1, LEAST), SIZE);
        int[][] bad = {{4, 0, 1}, {-1, 0, 1}, {0, 2, 1}, {0, -2, 1}, {4, 0, -1}, {0, 2, -1}};
        for (int[] b : bad) due.is("sheet", x.sheet(b[0], b[1], b[2]), BAD);
        due.is("it stays", place(x, 0, 23), 0);
        x.mark(0, 0, 5);
        x.mark(0, 1, 5);
        x.sheet(0, 0, 2);
        due.is("all 0", place(x, 0, 0), 0);
        due.is("all 0", place(x, 0, 1), 0);
        due.is("missing, n any", x.sheet(0, -1, 25), 0);
        due.is("missing, n any", x.sheet(0, -1, -25), 0);
        due.is("missing", x.mark(0, 0, 0), NOTHING);
        due.is("sheet(4, -1, 0)", x.sheet(4, -1, 0), BAD);
    }

    private static void mark() {
        due.promise(33);
        EchoFolk x = new EchoFolk();
        x.sheet(0, 0, 2);
        x.sheet(1, 1, 2);
        int[][] shorts = {{5, 5}, {-5, -5}, {32767, 32767}, {32768, -32768}, {65536, 0}, {65535, -1}, {MOST, -1}, {LEAST, 0}, {BAD, (short) BAD}};
        for (int[] s : shorts) {
            due.is("mark", x.mark(0, 1, s[0]), 1);
            due.is("its lowest 16 bits", place(x, 0, 1), s[1]);
        }
        int[] floats = {0, 1, -1, 99999, -99999, 65536};
        for (int f : floats) {
            due.is("mark", x.mark(1, 1, f), 1);
            due.is("v", place(x, 1, 1), f);
        }
        due.is("100000", x.mark(1, 1, 100000), BAD);
        due.is("-100000", x.mark(1, 1, -100000), BAD);
        due.is("it stays", place(x, 1, 1), 65536);
        due.is("no number", x.mark(1, 1, NONE), 1);
        due.is("no number", place(x, 1, 1), KIND);
        due.is("no number of shorts", x.mark(0, 0, NONE), KIND);
        due.is("index", x.mark(0, 2, 0), INDEX);
        due.is("index", x.mark(0, -1, 0), INDEX);
        due.is("index stands first", x.mark(0, 2, NONE), INDEX);
        due.is("index stands first", x.mark(1, 2, 100000), INDEX);
        due.is("nothing stands first", x.mark(2, 99, NONE), NOTHING);
        due.is("mark(4, 0, 0)", x.mark(4, 0, 0), BAD);
        due.is("mark(-1, 0, 0)", x.mark(-1, 0, 0), BAD);
    }

    private static void pour() {
        due.promise(34);
        EchoFolk x = new EchoFolk();
        for (int i = 0; i < 4; i++) x.speaker(0, 1, 10 + i);
        Due.floats(x, 0, NONE, 11, 500);
        due.is("pour", x.pour(0), 1);
        int[] fames = {10, 11, 99, 13};
        for (int i = 0; i < 4; i++) due.is("fame", x.told(i, 2), fames[i]);
        Due.shorts(x, 1, -1, 99, 100, 13, 50, 50);
        due.is("pour", x.pour(1), 2);
        int[] then = {0, 99, 99, 13};
        for (int i = 0; i < 4; i++) due.is("fame", x.told(i, 2), then[i]);
        due.is("pour", x.pour(1), 0);
        due.is("pour(2)", x.pour(2), NOTHING);
        due.is("pour(4)", x.pour(4), BAD);
        due.is("pour(-1)", x.pour(-1), BAD);
    }

    private static void reads() {
        due.promise(35);
        EchoFolk x = new EchoFolk();
        x.speaker(0, 9, 0);
        x.speaker(0, 9, 0);
        Due.words(x, 0, 1, 1);
        Due.words(x, 1, 1, 2, 3, 4);
        Due.shorts(x, 0, 2, 4);
        due.is("there is none", x.reads(0), NONE);
        Due.shorts(x, 0, 2);
        due.is("there is none", x.reads(0), NONE);
        Due.shorts(x, 0, 2, 5, 0);
        due.is("1", x.reads(0), 1);
        Due.shorts(x, 0, 1, 5);
        due.is("0", x.reads(0), 0);
        Due.floats(x, 0, 2, NONE, NONE, 0);
        due.is("no speaker", x.reads(0), 3);
        Due.floats(x, 0, NONE, NONE, NONE);
        due.is("of numbers alone", x.reads(0), NONE);
        Due.shorts(x, 0, 2, 4, 0);
        due.is("all numbers are not", x.reads(0), 2);
        x.sheet(0, 0, 0);
        due.is("no places", x.reads(0), NONE);
        due.is("reads(1)", x.reads(1), NOTHING);
        due.is("reads(4)", x.reads(4), BAD);
        due.is("reads(-1)", x.reads(-1), BAD);
    }

    private static void copy() {
        due.promise(36);
        EchoFolk x = new EchoFolk();
        Due.shorts(x, 0, 1, 2, 3, 4);
        x.sheet(1, 0, 3);
        due.is("copy", x.copy(0, 1, 1, 0, 3), 3);
        for (int i = 0; i < 3; i++) due.is("place", place(x, 1, i), 2 + i);
        due.is("to the same", x.copy(0, 0, 0, 1, 3), 3);
        int[] then = {1, 1, 2, 3};
        for (int i = 0; i < 4; i++) due.is("as they were", place(x, 0, i), then[i]);
        due.is("to the same", x.copy(0, 1, 0, 0, 3), 3);
        int[] last = {1, 2, 3, 3};
        for (int i = 0; i < 4; i++) due.is("as they were", place(x, 0, i), last[i]);
        due.is("none", x.copy(0, 4, 1, 3, 0), 0);
        int[][] index = {{0, 2, 1, 0, 3}, {0, 0, 1, 1, 3}, {0, -1, 1, 0, 1}, {0, 0, 1, -1, 1}, {0, 0, 1, 0, -1},
            {0, 5, 1, 0, 0}, {0, 0, 1, 4, 0}, {0, 1, 1, 1, MOST}, {0, MOST, 1, 0, 1}, {0, 0, 1, MOST, MOST}, {0, 0, 1, 0, LEAST}, {0, LEAST, 1, 0, LEAST}};
        for (int[] i : index) due.is("copy", x.copy(i[0], i[1], i[2], i[3], i[4]), INDEX);
        Due.floats(x, 2, NONE, 99999);
        due.is("not of one sort", x.copy(0, 0, 2, 0, 1), KIND);
        due.is("kind stands first", x.copy(2, 99, 0, 0, 1), KIND);
        due.is("nothing", x.copy(3, 0, 0, 0, 1), NOTHING);
        due.is("nothing stands first", x.copy(0, 99, 3, 0, 1), NOTHING);
        due.is("copy(4, ..)", x.copy(4, 0, 0, 0, 1), BAD);
        due.is("copy(.., -1, ..)", x.copy(3, 0, -1, 0, 1), BAD);
        x.sheet(1, 0, 24);
        due.is("24 places", x.copy(1, 0, 1, 0, 24), 24);
        due.is("25 places", x.copy(1, 0, 1, 0, 25), INDEX);
        x.sheet(1, 1, 2);
        due.is("floats", x.copy(2, 0, 1, 0, 2), 2);
        due.is("no number", place(x, 1, 0), KIND);
        due.is("number", place(x, 1, 1), 99999);
    }

    private static void lay() {
        due.promise(37);
        EchoFolk x = new EchoFolk();
        x.speaker(2, 9, 30);
        Due.shorts(x, 0, 7);
        due.is("lay(0, 3, -5)", x.lay(0, 3, -5), 0);
        due.is("lay(0, 1, 0)", x.lay(0, 1, 0), 3);
        due.is("lay(0, 2, 0)", x.lay(0, 2, 0), 1);
        due.is("that sheet is missing", x.lay(0, 2, 1), NOTHING);
        due.is("it stays", x.item(0, 0), 7);
        int[][] bad = {{5, 0, 0}, {-1, 0, 0}, {0, 4, 0}, {0, -1, 0}, {0, 1, 1}, {0, 1, -1}, {0, 2, 4}, {0, 2, -1}};
        for (int[] b : bad) due.is("lay", x.lay(b[0], b[1], b[2]), BAD);
        due.is("lay(0, 0, 99)", x.lay(0, 0, 99), 2);
        due.is("nothing", x.lay(0, 0, 0), 0);
        x.lay(1, 1, 0);
        x.lay(2, 2, 0);
        x.turns(0, 5);
        x.set(0, 2, 99);
        x.mark(0, 0, 8);
        due.is("as it is then", x.ask(1, 2), 69);
        due.is("as it was then", x.item(2, 0), 7);
        x.sheet(0, -1, 0);
        due.is("a row of its own", x.item(2, 0), 7);
    }

    private static void ask() {
        due.promise(38);
        EchoFolk x = new EchoFolk();
        int[] worth = {40, 46, 59, 92, 51, 1};
        int[] above = {0, 0, 0, 1, 2, 0};
        for (int kind = 0; kind < 6; kind++) {
            x.speaker(kind, 1, 40);
            x.lay(0, 1, kind);
            for (int k = 0; k < 6; k++) {
                boolean of = k == kind || k == above[kind] || k == 0;
                due.is("ask", x.ask(0, k), of ? worth[kind] : KIND);
            }
        }
        due.is("ask(0, 6)", x.ask(0, 6), BAD);
        due.is("ask(0, -1)", x.ask(0, -1), BAD);
        due.is("ask(5, 0)", x.ask(5, 0), BAD);
        due.is("ask(-1, 0)", x.ask(-1, 0), BAD);
        due.is("ask(1, 0)", x.ask(1, 0), NOTHING);
        x.lay(1, 3, 0);
        due.is("it is no speaker", x.ask(1, 0), KIND);
        x.sheet(0, 0, 1);
        x.lay(1, 2, 0);
        due.is("it is no speaker", x.ask(1, 0), KIND);
    }

    private static void item() {
        due.promise(39);
        EchoFolk x = new EchoFolk();
        x.speaker(0, 1, 1);
        Due.floats(x, 0, 5, NONE, -99999);
        x.lay(0, 2, 0);
        due.is("item(0, 0)", x.item(0, 0), 5);
        due.is("no number", x.item(0, 1), KIND);
        due.is("item(0, 2)", x.item(0, 2), -99999);
        due.is("item(0, 3)", x.item(0, 3), INDEX);
        due.is("item(0, -1)", x.item(0, -1), INDEX);
        due.is("item(1, 0)", x.item(1, 0), NOTHING);
        x.lay(1, 1, 0);
        due.is("a speaker", x.item(1, 0), KIND);
        x.lay(1, 3, 0);
        due.is("a number", x.item(1, 99), KIND);
        due.is("item(5, 0)", x.item(5, 0), BAD);
        due.is("item(-1, 0)", x.item(-1, 0), BAD);
    }

    private static void rest() {
        due.promise(40);
        EchoFolk x = new EchoFolk();
        x.speaker(0, 1, 1);
        x.lay(0, 3, -11);
        int[][] by = {{4, -3}, {-4, -3}, {11, 0}, {12, -11}, {1, 0}, {-1, 0}, {LEAST, -11}};
        for (int[] b : by) due.is("rest", x.rest(0, b[0]), b[1]);
        due.is("rest(0, 0)", x.rest(0, 0), NO);
        x.lay(0, 3, LEAST);
        due.is("LEAST by -1", x.rest(0, -1), 0);
        due.is("rest(1, 0)", x.rest(1, 0), NOTHING);
        x.lay(1, 1, 0);
        due.is("a speaker", x.rest(1, 0), KIND);
        x.sheet(0, 0, 1);
        x.lay(1, 2, 0);
        due.is("a sheet", x.rest(1, 0), KIND);
        due.is("rest(5, 0)", x.rest(5, 0), BAD);
        due.is("rest(-1, 0)", x.rest(-1, 0), BAD);
    }
}
