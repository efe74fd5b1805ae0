/** Sheets and slots: the first sentences of term 5, and promises 32 to 40. */
public final class SheetsTest {
    private static final int BAD = -1000000001, NO = -1000000002, NONE = -1000000005;
    private static final int NOTHING = -1000000011, KIND = -1000000012, INDEX = -1000000013, SIZE = -1000000014;
    private static final int MOST = Integer.MAX_VALUE, LEAST = Integer.MIN_VALUE;
    private static final Due due = new Due("SheetsTest");

    public static void main(String[] args) {
        rows();
        noNumber();
        slots();
        findings();
        sheet();
        mark();
        pour();
        reads();
        copy();
        copyAsTheyWere();
        lay();
        ask();
        item();
        rest();
        due.end();
    }

    /** A place of a sheet, by slot 4. */
    private static int place(EchoFolk x, int sheet, int place) {
        x.lay(4, 2, sheet);
        return x.item(4, place);
    }

    private static void places(String what, EchoFolk x, int sheet, int... want) {
        for (int i = 0; i < want.length; i++) due.is(what + ", place " + i, place(x, sheet, i), want[i]);
        due.is(what + ", no more places", place(x, sheet, want.length), INDEX);
    }

    private static void rows() {
        due.term(5, "SHEETS 0 .. 3 are rows of shorts (sort 0) or floats (1; whole numbers), with 0 to 24 places, or MISSING (at first).");
        EchoFolk x = new EchoFolk();
        for (int sheet = 0; sheet < 4; sheet++) due.is("missing at first", x.reads(sheet), NOTHING);
        due.is("there is no -1", x.reads(-1), BAD);
        due.is("there is no 4", x.reads(4), BAD);
        for (int sort = 0; sort < 2; sort++) {
            due.is("no places", x.sheet(3, sort, 0), 0);
            due.is("it is not missing", x.reads(3), NONE);
            due.is("24 places", x.sheet(3, sort, 24), 24);
            due.is("the last one", x.mark(3, 23, 1), 1);
            due.is("behind it", x.mark(3, 24, 1), INDEX);
            due.is("25 places", x.sheet(3, sort, 25), BAD);
        }
        due.is("floats hold more than shorts", x.mark(3, 0, 99999), 1);
        due.is("as it is", place(x, 3, 0), 99999);
    }

    private static void noNumber() {
        due.term(5, "A place of floats may be NO NUMBER.");
        EchoFolk x = new EchoFolk();
        Due.floats(x, 0, 1, NONE);
        places("floats", x, 0, 1, KIND);
        due.is("a number again", x.mark(0, 1, 0), 1);
        places("floats", x, 0, 1, 0);
        Due.shorts(x, 1, 1, 2);
        due.is("not of shorts", x.mark(1, 1, NONE), KIND);
        places("shorts", x, 1, 1, 2);
    }

    private static void slots() {
        due.term(5, "SLOTS 0 .. 4 each hold nothing (at first), a SPEAKER (as it is then, for good), a SHEET (a row of its own, as it was then), or a number.");
        EchoFolk x = new EchoFolk();
        x.speaker(2, 9, 30);
        Due.shorts(x, 0, 7, 8);
        for (int slot = 0; slot < 5; slot++) due.is("nothing at first", x.rest(slot, 1), NOTHING);
        due.is("there is no -1", x.rest(-1, 1), BAD);
        due.is("there is no 5", x.rest(5, 1), BAD);
        x.lay(0, 1, 0);
        x.lay(1, 2, 0);
        x.lay(2, 3, 11);
        x.turns(0, 5);
        x.set(0, 2, 99);
        x.mark(0, 0, 9);
        due.is("the speaker as it was", x.ask(0, 2), 69);
        due.is("the sheet as it was", x.item(1, 0), 7);
        x.sheet(0, -1, 0);
        x.forgets(0);
        x.keep();
        x.back();
        due.is("the speaker for good", x.ask(0, 0), 69);
        due.is("a row of its own", x.item(1, 1), 8);
        due.is("the number", x.rest(2, 100), 11);
        due.is("nothing still", x.rest(3, 1), NOTHING);
        x.lay(4, 1, 0);
        due.is("as it is then", x.ask(4, 5), 1);
    }

    private static void findings() {
        due.term(5, "FINDINGS: NOTHING: a SHEET is MISSING, a SLOT holds nothing; INDEX: there is no such place; SIZE: a number of places is below 0; KIND: it is none (of a KIND, a number, or another thing).");
        EchoFolk x = new EchoFolk();
        x.speaker(0, 1, 1);
        due.is("a sheet is missing", x.pour(0), NOTHING);
        due.is("a slot holds nothing", x.item(0, 0), NOTHING);
        Due.floats(x, 0, NONE);
        due.is("no place -1", x.mark(0, -1, 0), INDEX);
        due.is("no place 1", x.mark(0, 1, 0), INDEX);
        due.is("-1 places", x.sheet(0, 0, -1), SIZE);
        due.is("it stays", x.mark(0, 0, NONE), 1);
        x.lay(0, 1, 0);
        x.lay(1, 2, 0);
        due.is("it is none of a kind", x.ask(0, 1), KIND);
        due.is("it is no number", x.item(1, 0), KIND);
        due.is("it is another thing", x.item(0, 0), KIND);
    }

    private static void sheet() {
        due.promise(32, "A SHEET becomes a row of n places of a sort, all 0 (sort -1: MISSING, n any): n (0).");
        EchoFolk x = new EchoFolk();
        due.is("shorts", x.sheet(0, 0, 3), 3);
        places("all 0", x, 0, 0, 0, 0);
        due.is("floats", x.sheet(3, 1, 1), 1);
        places("all 0", x, 3, 0);
        x.mark(0, 0, 5);
        x.mark(0, 2, 5);
        due.is("fewer", x.sheet(0, 0, 2), 2);
        places("all 0", x, 0, 0, 0);
        x.mark(3, 0, NONE);
        due.is("more", x.sheet(3, 1, 24), 24);
        due.is("0", place(x, 3, 0), 0);
        due.is("0", place(x, 3, 23), 0);
        int[] any = {0, 24, 25, -1, MOST, LEAST};
        for (int n : any) {
            x.sheet(0, 0, 2);
            due.is("missing, n " + n, x.sheet(0, -1, n), 0);
            due.is("missing", x.mark(0, 0, 0), NOTHING);
        }
        due.is("missing again", x.sheet(0, -1, 0), 0);
        due.is("none", x.sheet(0, 0, 0), 0);
        due.is("not missing", x.mark(0, 0, 0), INDEX);
        due.promise(32, "BAD: sheet, sort, n above 24; SIZE.");
        Due.shorts(x, 0, 5, 6);
        int[][] bad = {{4, 0, 1}, {-1, 0, 1}, {0, 2, 1}, {0, -2, 1}, {0, 0, 25}, {0, 1, 25}, {4, 0, -1}, {0, 2, -1}, {4, -1, 0}, {-1, -1, 0},
            {MOST, 0, 1}, {LEAST, 0, 1}, {0, MOST, 1}, {0, LEAST, 1}, {0, 0, MOST}};
        for (int[] b : bad) due.is("sheet", x.sheet(b[0], b[1], b[2]), BAD);
        int[][] size = {{0, 0, -1}, {0, 1, -1}, {3, 0, LEAST}};
        for (int[] s : size) due.is("sheet", x.sheet(s[0], s[1], s[2]), SIZE);
        places("it stays", x, 0, 5, 6);
    }

    private static void mark() {
        due.promise(33, "A place of a SHEET becomes v (of shorts its lowest 16 bits; of floats v, -99999 .. 99999; NONE: NO NUMBER): 1.");
        EchoFolk x = new EchoFolk();
        x.sheet(0, 0, 2);
        x.sheet(1, 1, 2);
        int[][] shorts = {{5, 5}, {-5, -5}, {32767, 32767}, {32768, -32768}, {-32768, -32768}, {-32769, 32767}, {65535, -1}, {65536, 0}, {65537, 1},
            {MOST, -1}, {LEAST, 0}, {100000, -31072}, {BAD, 13823}, {NONE + 1, 13820}, {NONE - 1, 13818}};
        for (int[] s : shorts) {
            due.is("mark(0, 1, " + s[0] + ")", x.mark(0, 1, s[0]), 1);
            places("its lowest 16 bits", x, 0, 0, s[1]);
        }
        int[] floats = {0, 1, -1, 99999, -99999, 32768, 65536};
        for (int f : floats) {
            due.is("mark(1, 1, " + f + ")", x.mark(1, 1, f), 1);
            places("v", x, 1, 0, f);
        }
        due.is("no number", x.mark(1, 0, NONE), 1);
        places("no number", x, 1, KIND, 65536);
        due.promise(33, "BAD: sheet; NOTHING; INDEX; KIND: NONE in a row of shorts; BAD: v of floats.");
        int[] bad = {4, -1, MOST, LEAST};
        for (int b : bad) due.is("mark", x.mark(b, 0, 0), BAD);
        due.is("missing", x.mark(2, 0, 0), NOTHING);
        int[] index = {2, -1, 24, MOST, LEAST};
        for (int i : index) due.is("index", x.mark(0, i, 0), INDEX);
        for (int i : index) due.is("index", x.mark(1, i, 0), INDEX);
        due.is("none in a row of shorts", x.mark(0, 0, NONE), KIND);
        int[] v = {100000, -100000, MOST, LEAST, BAD, NONE + 1, NONE - 1};
        for (int b : v) due.is("v of floats", x.mark(1, 1, b), BAD);
        due.is("nothing stands ahead of index", x.mark(2, 99, NONE), NOTHING);
        due.is("index stands ahead of kind", x.mark(0, 2, NONE), INDEX);
        due.is("index stands ahead of bad v", x.mark(1, 2, 100000), INDEX);
        places("it stays", x, 0, 0, 13818);
        places("it stays", x, 1, KIND, 65536);
    }

    private static void fames(String what, EchoFolk x, int... fames) {
        for (int i = 0; i < fames.length; i++) due.is(what + " of " + i, x.told(i, 2), fames[i]);
    }

    private static void pour() {
        due.promise(34, "FAMES of SPEAKERS, by numbers, become the places of a SHEET from 0 on (each held within 0 .. 99; NO NUMBER, and beyond the SHEET: they stay): how many are otherwise then.");
        EchoFolk x = new EchoFolk();
        for (int i = 0; i < 4; i++) x.speaker(i, 1, 10 + i);
        Due.floats(x, 3, NONE, 11, 50);
        due.is("one is otherwise", x.pour(3), 1);
        fames("no number, the same, another, beyond", x, 10, 11, 50, 13);
        Due.shorts(x, 0, 0, 99, -1, 100);
        due.is("all are otherwise", x.pour(0), 4);
        fames("held", x, 0, 99, 0, 99);
        due.is("none is", x.pour(0), 0);
        Due.floats(x, 0, -99999, 99999, 1, 98);
        due.is("two are: held they are the same", x.pour(0), 2);
        fames("held", x, 0, 99, 1, 98);
        Due.shorts(x, 0, 5, 5, 5, 5, 5, 5);
        due.is("places beyond the speakers", x.pour(0), 4);
        due.is("no speaker came", x.count(0), 4);
        x.sheet(0, 0, 0);
        due.is("no places", x.pour(0), 0);
        fames("they stay", x, 5, 5, 5, 5);
        EchoFolk nobody = new EchoFolk();
        nobody.sheet(0, 0, 24);
        due.is("no speakers", nobody.pour(0), 0);
        due.promise(34, "BAD; NOTHING.");
        int[] bad = {4, -1, MOST, LEAST};
        for (int b : bad) due.is("pour", x.pour(b), BAD);
        due.is("missing", x.pour(2), NOTHING);
        fames("they stay", x, 5, 5, 5, 5);
    }

    private static void reads() {
        due.promise(35, "The first place (of numbers alone) at which a SHEET is not how many WORDS that SPEAKER has HEARD (of places that are no SPEAKER all numbers are not).");
        EchoFolk x = new EchoFolk();
        x.speaker(0, 9, 0);
        x.speaker(0, 9, 0);
        x.speaker(0, 9, 0);
        Due.words(x, 0, 1, 1);
        Due.words(x, 1, 1, 2, 3, 4);
        int[][] shorts = {{2, 5, 1}, {1, 5}, {3, 4}, {2, 4, 1}, {2, 4, 0, 0}, {2, 4, 0, 7}, {-2}};
        int[] first = {1, 0, 0, 2, 3, 3, 0};
        for (int i = 0; i < shorts.length; i++) {
            Due.shorts(x, 0, shorts[i]);
            due.is("shorts " + i, x.reads(0), first[i]);
        }
        int[][] floats = {{2, NONE, 1}, {NONE, 3}, {2, 4, 0, NONE, 0}, {99999}};
        int[] then = {2, 1, 4, 0};
        for (int i = 0; i < floats.length; i++) {
            Due.floats(x, 3, floats[i]);
            due.is("floats " + i, x.reads(3), then[i]);
        }
        EchoFolk eight = new EchoFolk();
        eight.deal(8);
        eight.sheet(0, 0, 24);
        due.is("behind the last speaker", eight.reads(0), 8);
        eight.sheet(0, 1, 24);
        for (int i = 8; i < 23; i++) eight.mark(0, i, NONE);
        due.is("the last place", eight.reads(0), 23);
        due.promise(35, "BAD; NOTHING; NONE: there is none.");
        int[] bad = {4, -1, MOST, LEAST};
        for (int b : bad) due.is("reads", x.reads(b), BAD);
        due.is("missing", x.reads(2), NOTHING);
        Due.shorts(x, 0, 2, 4, 0);
        due.is("all are", x.reads(0), NONE);
        Due.shorts(x, 0, 2);
        due.is("fewer places", x.reads(0), NONE);
        Due.floats(x, 0, 2, NONE, 0, NONE);
        due.is("no numbers", x.reads(0), NONE);
        x.sheet(0, 0, 0);
        due.is("no places", x.reads(0), NONE);
    }

    private static void copy() {
        due.promise(36, "BAD; NOTHING; KIND: they are not of one sort; INDEX.");
        EchoFolk x = new EchoFolk();
        Due.shorts(x, 0, 1, 2, 3, 4);
        Due.shorts(x, 1, 5, 6, 7);
        Due.floats(x, 2, NONE, 99999);
        int[][] bad = {{4, 0, 0, 0, 1}, {-1, 0, 0, 0, 1}, {0, 0, 4, 0, 1}, {0, 0, -1, 0, 1}, {MOST, 0, 0, 0, 1}, {0, 0, LEAST, 0, 1}, {3, 0, 4, 0, 1}};
        for (int[] b : bad) due.is("copy", x.copy(b[0], b[1], b[2], b[3], b[4]), BAD);
        int[][] nothing = {{3, 0, 0, 0, 1}, {0, 0, 3, 0, 1}, {3, 0, 3, 0, 0}, {0, 99, 3, 0, 1}, {2, 0, 3, 0, 1}};
        for (int[] n : nothing) due.is("copy", x.copy(n[0], n[1], n[2], n[3], n[4]), NOTHING);
        int[][] kind = {{0, 0, 2, 0, 1}, {2, 0, 0, 0, 1}, {2, 99, 0, 0, 1}, {0, 0, 2, 0, 0}, {0, 0, 2, 0, -1}};
        for (int[] k : kind) due.is("copy", x.copy(k[0], k[1], k[2], k[3], k[4]), KIND);
        int[][] index = {{0, 2, 1, 0, 3}, {0, 4, 1, 0, 1}, {0, 0, 1, 1, 3}, {0, 0, 1, 3, 1}, {0, -1, 1, 0, 1}, {0, 0, 1, -1, 1}, {0, 0, 1, 0, 4},
            {0, 5, 1, 0, 0}, {0, 0, 1, 4, 0}, {0, -1, 1, 0, 0}, {0, 0, 1, -1, 0}, {0, 0, 1, 0, -1}, {0, 1, 1, 1, MOST}, {0, MOST, 1, 0, 1},
            {0, 0, 1, MOST, MOST}, {0, 0, 1, 0, LEAST}, {0, LEAST, 1, 0, LEAST}, {0, MOST, 1, 0, MOST}};
        for (int[] i : index) due.is("copy", x.copy(i[0], i[1], i[2], i[3], i[4]), INDEX);
        places("it stays", x, 0, 1, 2, 3, 4);
        places("it stays", x, 1, 5, 6, 7);
        places("it stays", x, 2, KIND, 99999);
        due.is("none from behind the last to behind the last", x.copy(0, 4, 1, 3, 0), 0);
        due.is("the last to the last", x.copy(0, 3, 1, 2, 1), 1);
        places("it came", x, 1, 5, 6, 4);
        x.sheet(1, 0, 24);
        due.is("24 places", x.copy(1, 0, 1, 0, 24), 24);
        due.is("25 places", x.copy(1, 0, 1, 0, 25), INDEX);
    }

    private static void copyAsTheyWere() {
        due.promise(36, "So many places of a SHEET come to another one (or the same), as they were: many.");
        EchoFolk x = new EchoFolk();
        Due.shorts(x, 0, 1, 2, 3, 4);
        x.sheet(3, 0, 3);
        due.is("to another one", x.copy(0, 1, 3, 0, 3), 3);
        places("they came", x, 3, 2, 3, 4);
        due.is("to the same, further on", x.copy(0, 0, 0, 1, 3), 3);
        places("as they were", x, 0, 1, 1, 2, 3);
        due.is("to the same, further ahead", x.copy(0, 1, 0, 0, 3), 3);
        places("as they were", x, 0, 1, 2, 3, 3);
        due.is("to the same place", x.copy(0, 0, 0, 0, 4), 4);
        places("as they were", x, 0, 1, 2, 3, 3);
        due.is("none", x.copy(0, 0, 3, 0, 0), 0);
        places("they stay", x, 3, 2, 3, 4);
        Due.floats(x, 1, NONE, 99999, -99999);
        x.sheet(2, 1, 3);
        due.is("floats", x.copy(1, 0, 2, 0, 3), 3);
        places("they came", x, 2, KIND, 99999, -99999);
        x.mark(1, 0, 5);
        places("they are its own", x, 2, KIND, 99999, -99999);
        due.promise(36, "(From a SHEET, its place, to a SHEET, its place.)");
        Due.shorts(x, 0, 1, 2, 3, 4);
        Due.shorts(x, 3, 5, 6, 7);
        due.is("from 2 of 0 to 1 of 3", x.copy(0, 2, 3, 1, 2), 2);
        places("they came", x, 3, 5, 3, 4);
        places("they stay", x, 0, 1, 2, 3, 4);
    }

    private static void lay() {
        due.promise(37, "A SLOT holds: thing 0 nothing, 1 SPEAKER k, 2 SHEET k, 3 the number k: what it held (0 .. 3).");
        EchoFolk x = new EchoFolk();
        x.speaker(0, 9, 30);
        x.speaker(2, 9, 30);
        Due.shorts(x, 3, 7);
        for (int slot = 0; slot < 5; slot++) {
            due.is("nothing to nothing", x.lay(slot, 0, 99), 0);
            due.is("it held nothing", x.lay(slot, 3, LEAST), 0);
            due.is("the number", x.rest(slot, MOST), -1);
            due.is("it held a number", x.lay(slot, 1, 1), 3);
            due.is("speaker 1", x.ask(slot, 2), 69);
            due.is("it held a speaker", x.lay(slot, 2, 3), 1);
            due.is("sheet 3", x.item(slot, 0), 7);
            due.is("it held a sheet", x.lay(slot, 2, 3), 2);
            due.is("it held a sheet", x.lay(slot, 0, -99), 2);
            due.is("it holds nothing", x.item(slot, 0), NOTHING);
        }
        x.sheet(0, 1, 0);
        due.is("a sheet without places", x.lay(0, 2, 0), 0);
        due.is("it holds it", x.item(0, 0), INDEX);
        due.promise(37, "BAD: slot, thing, k; NOTHING: that SHEET is MISSING.");
        x.lay(0, 2, 3);
        int[][] bad = {{5, 0, 0}, {-1, 0, 0}, {0, 4, 0}, {0, -1, 0}, {0, 1, 2}, {0, 1, -1}, {0, 1, 8}, {0, 2, 4}, {0, 2, -1}, {5, 2, 1},
            {MOST, 0, 0}, {LEAST, 0, 0}, {0, MOST, 0}, {0, LEAST, 0}, {0, 1, MOST}, {0, 1, LEAST}, {0, 2, MOST}, {0, 2, LEAST}};
        for (int[] b : bad) due.is("lay", x.lay(b[0], b[1], b[2]), BAD);
        due.is("that sheet is missing", x.lay(0, 2, 1), NOTHING);
        due.is("it stays", x.item(0, 0), 7);
        due.is("there is no speaker", new EchoFolk().lay(0, 1, 0), BAD);
    }

    private static void ask() {
        due.promise(38, "WORTH of the SPEAKER in a SLOT, taken for one of a KIND (0 .. 5).");
        int[] worth = {40, 46, 59, 92, 51, 1};
        int[] among = {Due.set(0), Due.set(0, 1), Due.set(0, 2), Due.set(0, 1, 3), Due.set(0, 2, 4), Due.set(0, 5)};
        EchoFolk x = new EchoFolk();
        for (int kind = 0; kind < 6; kind++) {
            x.speaker(kind, 1, 40);
            x.lay(4, 1, kind);
            for (int k = 0; k < 6; k++) {
                if ((among[kind] >> k & 1) == 1) due.is("worth of a " + kind + " as a " + k, x.ask(4, k), worth[kind]);
            }
        }
        due.promise(38, "BAD; NOTHING; KIND: it is no SPEAKER, or not of that KIND, nor of one under it.");
        for (int kind = 0; kind < 6; kind++) {
            x.lay(4, 1, kind);
            for (int k = 0; k < 6; k++) {
                if ((among[kind] >> k & 1) == 0) due.is("a " + kind + " as a " + k, x.ask(4, k), KIND);
            }
        }
        int[][] bad = {{4, 6}, {4, -1}, {5, 0}, {-1, 0}, {0, 6}, {0, -1}, {MOST, 0}, {LEAST, 0}, {4, MOST}, {4, LEAST}};
        for (int[] b : bad) due.is("ask", x.ask(b[0], b[1]), BAD);
        for (int k = 0; k < 6; k++) due.is("nothing", x.ask(0, k), NOTHING);
        x.lay(0, 3, 0);
        due.is("a number is no speaker", x.ask(0, 0), KIND);
        x.sheet(0, 0, 1);
        x.lay(0, 2, 0);
        due.is("a sheet is no speaker", x.ask(0, 0), KIND);
        due.is("bad stands ahead of kind", x.ask(0, 6), BAD);
    }

    private static void item() {
        due.promise(39, "A place of the SHEET in a SLOT.");
        EchoFolk x = new EchoFolk();
        x.speaker(0, 1, 1);
        Due.floats(x, 0, 5, NONE, -99999);
        Due.shorts(x, 1, -32768, 32767);
        x.lay(0, 2, 0);
        x.lay(4, 2, 1);
        due.is("floats, the first", x.item(0, 0), 5);
        due.is("floats, the last", x.item(0, 2), -99999);
        due.is("shorts, the first", x.item(4, 0), -32768);
        due.is("shorts, the last", x.item(4, 1), 32767);
        due.promise(39, "BAD: slot; NOTHING; KIND: it is no SHEET; INDEX; KIND: NO NUMBER.");
        int[] bad = {5, -1, MOST, LEAST};
        for (int b : bad) due.is("item", x.item(b, 0), BAD);
        due.is("nothing", x.item(1, 0), NOTHING);
        due.is("nothing, whatever the place", x.item(1, -1), NOTHING);
        x.lay(1, 1, 0);
        due.is("a speaker", x.item(1, 0), KIND);
        x.lay(2, 3, 0);
        due.is("a number, whatever the place", x.item(2, 99), KIND);
        int[] index = {3, -1, 24, MOST, LEAST};
        for (int i : index) due.is("index", x.item(0, i), INDEX);
        due.is("index", x.item(4, 2), INDEX);
        due.is("no number", x.item(0, 1), KIND);
        x.sheet(2, 0, 24);
        x.lay(3, 2, 2);
        due.is("the last place", x.item(3, 23), 0);
        due.is("behind it", x.item(3, 24), INDEX);
    }

    private static void rest() {
        due.promise(40, "The rest of the number in a SLOT by n.");
        EchoFolk x = new EchoFolk();
        x.speaker(0, 1, 1);
        int[][] by = {{11, 4, 3}, {-11, 4, -3}, {11, -4, 3}, {-11, -4, -3}, {-11, 11, 0}, {-11, 12, -11}, {-11, 1, 0}, {-11, -1, 0}, {0, 7, 0},
            {-11, LEAST, -11}, {LEAST, -1, 0}, {LEAST, 1, 0}, {LEAST, LEAST, 0}, {LEAST, MOST, -1}, {MOST, LEAST, MOST}, {MOST, MOST, 0}, {MOST, -1, 0}};
        for (int[] b : by) {
            x.lay(4, 3, b[0]);
            due.is("rest of " + b[0] + " by " + b[1], x.rest(4, b[1]), b[2]);
        }
        due.promise(40, "BAD: slot; NOTHING; KIND: it is no number; NO: n is 0.");
        int[] bad = {5, -1, MOST, LEAST};
        for (int b : bad) due.is("rest", x.rest(b, 0), BAD);
        due.is("nothing", x.rest(0, 0), NOTHING);
        due.is("nothing", x.rest(0, 1), NOTHING);
        x.lay(0, 1, 0);
        due.is("a speaker", x.rest(0, 1), KIND);
        due.is("kind stands ahead of no", x.rest(0, 0), KIND);
        x.sheet(0, 0, 1);
        x.lay(0, 2, 0);
        due.is("a sheet", x.rest(0, 1), KIND);
        due.is("n is 0", x.rest(4, 0), NO);
        x.lay(4, 3, 0);
        due.is("0 by 0", x.rest(4, 0), NO);
        due.is("0 by 1", x.rest(4, 1), 0);
    }
}
