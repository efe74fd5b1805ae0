/** Sayings by a sheet: the first sentences of term 3, and promises 16 to 19. */
public final class SayingsTest {
    private static final int BAD = -1000000001, NONE = -1000000005, NOTHING = -1000000011, SIZE = -1000000014;
    private static final int MOST = Integer.MAX_VALUE, LEAST = Integer.MIN_VALUE;
    private static final Due due = new Due("SayingsTest");

    public static void main(String[] args) {
        asFarAsWords();
        twelveAtMost();
        fewest();
        firstWanting();
        those();
        breaths();
        wanting();
        who();
        teacherByFewest();
        teacherSpeaksAll();
        teacherOfOneWhoForgets();
        teacher();
        due.end();
    }

    private static void asFarAsWords() {
        due.term(3, "as far as they are WORDS 0 .. 19 (it ends ahead of the first that is not).");
        EchoFolk x = Due.plain(1);
        Due.words(x, 0, 0, 19);
        int[][] shorts = {{0, 19}, {0, 19, 20, 7}, {0, 19, -1, 7}, {0, 20}, {-1, 0}, {20, 0}, {0, -32768}, {0, 32767}};
        int[] breaths = {1, 1, 1, 1, SIZE, SIZE, 1, 1};
        for (int i = 0; i < shorts.length; i++) {
            Due.shorts(x, 0, shorts[i]);
            due.is("shorts " + i, x.breaths(0, 0), breaths[i]);
        }
        int[][] floats = {{0, 19}, {0, 19, NONE, 7}, {NONE, 0}, {0, 20, 7}, {0, -1, 7}, {99999}, {-99999}};
        int[] then = {1, 1, SIZE, 1, 1, SIZE, SIZE};
        for (int i = 0; i < floats.length; i++) {
            Due.floats(x, 0, floats[i]);
            due.is("floats " + i, x.breaths(0, 0), then[i]);
        }
    }

    private static void twelveAtMost() {
        due.term(3, "A SAYING by a SHEET: its places (12 at most, the first ones),");
        EchoFolk x = Due.plain(1);
        Due.words(x, 0, 1, 2, 3, 4, 5, 6, 7, 8, 9, 10, 11, 12);
        Due.shorts(x, 0, 1, 2, 3, 4, 5, 6, 7, 8, 9, 10, 11, 12);
        due.is("twelve", x.breaths(0, 0), 4);
        Due.shorts(x, 0, 1, 2, 3, 4, 5, 6, 7, 8, 9, 10, 11, 12, 12);
        due.is("the thirteenth is not of it", x.breaths(0, 0), 4);
        due.is("nor wanting", x.wanting(0), NONE);
        Due.shorts(x, 0, 1, 2, 3, 4, 5, 6, 7, 8, 9, 10, 11, 12, 19);
        due.is("nor wanting", x.wanting(0), NONE);
        due.is("it can be said", x.who(0), 1);
        Due.shorts(x, 0, 1, 2, 3, 4, 5, 6, 7, 8, 9, 10, 11, 19);
        due.is("the twelfth is wanting", x.wanting(0), 19);
        due.is("it cannot be said", x.who(0), 0);
        x.sheet(0, 0, 24);
        due.is("of 24 places twelve", x.wanting(0), 0);
        x.speaks(0, 0, -1, -1);
        due.is("of 24 places twelve", x.breaths(0, 0), 12);
    }

    private static void fewest() {
        due.term(3, "BREATHS: the fewest by which a SPEAKER can say it.");
        EchoFolk x = Due.plain(1);
        Due.words(x, 0, 1, 2, 7, 2, 3, 4, 7, 1, 2, 3);
        Due.shorts(x, 0, 1, 2, 3, 4);
        due.is("123 | 4 or 1 | 234, not 12 | 3 | 4", x.breaths(0, 0), 2);
        x.turns(0, 1);
        due.is("12 | 34", x.breaths(0, 0), 2);
        x.turns(0, 2);
        due.is("no four in a row", x.breaths(0, 0), 2);
        Due.shorts(x, 0, 2, 3, 4, 7);
        due.is("2347", x.breaths(0, 0), 1);
        x.turns(0, 0);
        due.is("234 | 7", x.breaths(0, 0), 2);
        Due.shorts(x, 0, 7, 1, 7, 2, 7, 3);
        due.is("71 | 72 | 7 | 3", x.breaths(0, 0), 4);
    }

    private static void firstWanting() {
        due.term(3, "WANTING: the first of its WORDS that no SPEAKER has HEARD.");
        EchoFolk x = Due.plain(2);
        Due.shorts(x, 0, 3, 1, 5);
        due.is("nobody has a word", x.wanting(0), 3);
        x.speaks(1, 3, -1, -1);
        due.is("3 is heard", x.wanting(0), 1);
        x.speaks(0, 5, -1, -1);
        due.is("1 is wanting still", x.wanting(0), 1);
        x.speaks(0, 1, -1, -1);
        due.is("none is", x.wanting(0), NONE);
        x.forgets(1);
        due.is("3 is forgotten", x.wanting(0), 3);
    }

    private static void those() {
        due.term(3, "WHO: those that can say it.");
        EchoFolk x = Due.plain(8);
        Due.shorts(x, 0, 3, 1);
        due.is("nobody", x.who(0), 0);
        Due.words(x, 7, 1, 3);
        Due.words(x, 2, 4, 1, 3, 1);
        Due.words(x, 3, 3);
        due.is("2 and 7", x.who(0), Due.set(2, 7));
        Due.words(x, 0, 3, 1);
        due.is("0, 2 and 7", x.who(0), Due.set(0, 2, 7));
        for (int i = 0; i < 8; i++) Due.words(x, i, 1, 3);
        due.is("all", x.who(0), 255);
    }

    private static void breaths() {
        due.promise(16, "BREATHS of a SPEAKER for A SAYING by a SHEET.");
        EchoFolk x = Due.plain(2);
        Due.words(x, 0, 1, 2, 3, 4, 5);
        Due.words(x, 1, 5, 4, 3, 2, 1);
        Due.shorts(x, 3, 1, 2, 3, 4, 5);
        due.is("of one", x.breaths(3, 0), 2);
        due.is("of another", x.breaths(3, 1), 5);
        due.promise(16, "BAD; NOTHING; SIZE: it has no WORDS; NONE: it cannot.");
        int[][] bad = {{4, 0}, {-1, 0}, {3, 2}, {3, -1}, {0, 2}, {0, -1}, {MOST, 0}, {LEAST, 0}, {3, MOST}, {3, LEAST}};
        for (int[] b : bad) due.is("breaths", x.breaths(b[0], b[1]), BAD);
        due.is("missing", x.breaths(0, 0), NOTHING);
        x.sheet(0, 0, 0);
        due.is("no places", x.breaths(0, 0), SIZE);
        Due.shorts(x, 0, 20, 1);
        due.is("no words", x.breaths(0, 0), SIZE);
        Due.shorts(x, 0, 1, 6);
        due.is("it cannot", x.breaths(0, 0), NONE);
        due.is("bad stands ahead of size", x.breaths(0, 2), BAD);
        x.forgets(0);
        Due.shorts(x, 0, 1);
        due.is("without words", x.breaths(0, 0), NONE);
    }

    private static void wanting() {
        due.promise(17, "WANTING.");
        EchoFolk x = new EchoFolk();
        Due.floats(x, 3, 19, 0);
        due.is("without speakers the first", x.wanting(3), 19);
        due.promise(17, "BAD; NOTHING; NONE: none is.");
        int[] bad = {4, -1, MOST, LEAST};
        for (int b : bad) due.is("wanting", x.wanting(b), BAD);
        due.is("missing", x.wanting(0), NOTHING);
        x.speaker(0, 9, 0);
        Due.words(x, 0, 19, 0);
        due.is("none is", x.wanting(3), NONE);
        Due.shorts(x, 0, 20, 7);
        due.is("no words", x.wanting(0), NONE);
        x.sheet(0, 1, 0);
        due.is("no places", x.wanting(0), NONE);
        Due.shorts(x, 0, 0, 20, 7);
        due.is("it ends ahead of it", x.wanting(0), NONE);
    }

    private static void who() {
        due.promise(18, "WHO, as a set.");
        EchoFolk x = new EchoFolk();
        Due.shorts(x, 3, 19);
        due.is("without speakers", x.who(3), 0);
        for (int i = 0; i < 8; i++) x.speaker(0, 9, 0);
        x.speaks(0, 19, -1, -1);
        x.speaks(7, 19, -1, -1);
        due.is("the first and the last", x.who(3), 1 + 128);
        due.promise(18, "BAD; NOTHING; SIZE: it has no WORDS.");
        int[] bad = {4, -1, MOST, LEAST};
        for (int b : bad) due.is("who", x.who(b), BAD);
        due.is("missing", x.who(0), NOTHING);
        x.sheet(0, 0, 0);
        due.is("no places", x.who(0), SIZE);
        Due.shorts(x, 0, -1, 19);
        due.is("no words", x.who(0), SIZE);
        Due.shorts(x, 0, 19, -1);
        due.is("one word", x.who(0), 129);
        EchoFolk nobody = new EchoFolk();
        nobody.sheet(0, 0, 0);
        due.is("no places, without speakers", nobody.who(0), SIZE);
    }

    private static void teacherByFewest() {
        due.term(3, "would let the SPEAKER say it by fewest BREATHS; of several the least.");
        EchoFolk x = Due.plain(5);
        Due.words(x, 0, 1);
        Due.words(x, 1, 7, 4, 3, 2, 1);
        Due.words(x, 2, 1, 2, 3, 4, 7);
        Due.words(x, 3, 1, 2, 3, 4, 7);
        Due.shorts(x, 0, 1, 2, 3, 4);
        due.is("by fewest, of two the least", x.teacher(0, 0, 0), 2);
        due.is("123 | 4", x.teacher(0, 0, 1), 2);
        due.is("not itself, and of four as good the least", x.teacher(0, 2, 0), 0);
        due.is("one without words is as good", x.teacher(0, 3, 1), 2);
        x.forgets(2);
        due.is("the next", x.teacher(0, 0, 0), 3);
        x.forgets(3);
        due.is("the worst is better than none", x.teacher(0, 0, 0), 1);
        due.is("1 | 2 | 3 | 4", x.teacher(0, 0, 1), 4);
    }

    private static void teacherSpeaksAll() {
        due.term(3, "TEACHER of a SPEAKER: the other one who, if it spoke all of its own HEARD now (at once, though it GOES less far),");
        EchoFolk x = Due.plain(2);
        Due.words(x, 1, 1, 2, 3, 4, 5, 6, 7, 8, 9, 10, 11, 12);
        x.turns(0, 4);
        Due.text(x, "keep 12");
        Due.shorts(x, 0, 5);
        due.is("a liar of ear 9 takes five", x.teacher(0, 0, 0), 1);
        Due.shorts(x, 0, 6);
        due.is("and no sixth", x.teacher(0, 0, 0), NONE);
        x.turns(0, 0);
        Due.shorts(x, 0, 9);
        due.is("a speaker of ear 9 takes nine", x.teacher(0, 0, 1), 1);
        Due.shorts(x, 0, 10);
        due.is("and no tenth", x.teacher(0, 0, 1), NONE);
        x.turns(0, 3);
        Due.shorts(x, 0, 11);
        due.is("a lover of ear 9 takes eleven", x.teacher(0, 0, 0), 1);
        Due.shorts(x, 0, 12);
        due.is("and no twelfth", x.teacher(0, 0, 0), NONE);
        Due.shorts(x, 0, 2);
        due.is("and keeps nine of them", x.teacher(0, 0, 0), NONE);
        Due.shorts(x, 0, 3);
        due.is("and keeps nine of them", x.teacher(0, 0, 0), 1);
        x.turns(1, 1);
        due.is("though a child goes two", x.teacher(0, 0, 0), 1);
        due.is("nothing was spoken", x.folk(0), 0);
        due.is("nothing was heard", x.told(0, 4), 0);
    }

    private static void teacherOfOneWhoForgets() {
        due.term(3, "would let the SPEAKER say it by fewest BREATHS");
        EchoFolk x = Due.plain(3);
        x.set(2, 1, 1);
        Due.words(x, 0, 1, 2, 3);
        Due.words(x, 1, 4, 5, 6, 7);
        Due.words(x, 2, 8);
        Due.text(x, "keep 4");
        Due.shorts(x, 0, 3);
        due.is("with 1 it forgets 1, 2, 3", x.teacher(0, 0, 0), 2);
        Due.shorts(x, 0, 4, 5, 6, 7);
        due.is("with 1 it has 4, 5, 6, 7", x.teacher(0, 0, 1), 2);
        Due.shorts(x, 0, 3, 8);
        due.is("38", x.teacher(0, 0, 1), 1);
        due.is("nothing is lost", x.folk(1), 0);
        x.turns(0, 5);
        Due.shorts(x, 0, 1);
        due.is("it can say it now", x.breaths(0, 0), 1);
        due.is("spoken to it would forget all", x.teacher(0, 0, 0), NONE);
    }

    private static void teacher() {
        due.promise(19, "TEACHER of a SPEAKER: what 0 the other one, 1 BREATHS then.");
        EchoFolk x = Due.plain(8);
        Due.words(x, 7, 1, 2, 3, 4);
        Due.shorts(x, 3, 1, 2, 3, 4);
        due.is("what 0", x.teacher(3, 0, 0), 7);
        due.is("what 1", x.teacher(3, 0, 1), 2);
        due.promise(19, "BAD; NOTHING; SIZE: it has no WORDS; NONE: with none it can.");
        EchoFolk y = Due.plain(2);
        Due.shorts(y, 3, 1);
        int[][] bad = {{4, 0, 0}, {-1, 0, 0}, {3, 2, 0}, {3, -1, 0}, {3, 0, 2}, {3, 0, -1}, {0, 2, 0}, {0, 0, 2},
            {MOST, 0, 0}, {LEAST, 0, 0}, {3, MOST, 0}, {3, LEAST, 0}, {3, 0, MOST}, {3, 0, LEAST}};
        for (int[] b : bad) due.is("teacher", y.teacher(b[0], b[1], b[2]), BAD);
        for (int what = 0; what < 2; what++) {
            due.is("missing", y.teacher(0, 0, what), NOTHING);
            due.is("none can", y.teacher(3, 0, what), NONE);
        }
        y.sheet(0, 0, 0);
        due.is("no places", y.teacher(0, 0, 0), SIZE);
        Due.shorts(y, 0, 20);
        due.is("no words", y.teacher(0, 0, 1), SIZE);
        EchoFolk alone = Due.plain(1);
        Due.words(alone, 0, 1);
        Due.shorts(alone, 0, 1);
        due.is("there is no other one", alone.teacher(0, 0, 0), NONE);
        due.is("there is no other one", alone.teacher(0, 0, 1), NONE);
        alone.speaker(5, 1, 0);
        due.is("there is one", alone.teacher(0, 0, 0), 1);
    }
}
