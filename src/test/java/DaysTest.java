/** A day and its draws, days, the folk: term 2 and promises 14 and 15. */
public final class DaysTest {
    private static final int BAD = -1000000001, NONE = -1000000005, SIZE = -1000000014;
    private static final int MOST = Integer.MAX_VALUE, LEAST = Integer.MIN_VALUE;
    private static final Due due = new Due("DaysTest");

    public static void main(String[] args) {
        draws();
        aSaying();
        pieces();
        belowTalk();
        twoOrMore();
        theOneWhoSpeaks();
        theOtherOne();
        thePiece();
        withoutWords();
        theOtherOneHears();
        oneMoreDay();
        days();
        daysFromALot();
        theLastDay();
        folk();
        due.end();
    }

    private static void draws() {
        due.term(2, "z is told (1 at first). A draw: z becomes z * 1103515245 + 12345 (an int); it gives z >>> 8.");
        EchoFolk x = new EchoFolk();
        due.is("at first", x.count(6), 1);
        x.days(1);
        due.is("a draw", x.count(6), 1103527590);
        x.days(1);
        due.is("it wraps around", x.count(6), -1770082073);
        x.seed(MOST);
        x.days(1);
        due.is("from the greatest", x.count(6), 1043980748);
        x.seed(LEAST);
        x.days(1);
        due.is("from the least", x.count(6), -2147471303);
        int below = 1;
        for (int v = 1; v < 1000; v++) if (Due.afterDraws(v, 1) < 0) below = v;
        x.seed(below);
        x.deal(1);
        int z = Due.afterDraws(below, 1);
        due.is("a z below 0 gives its bits, not its sign", x.told(0, 0), (int) ((z & 0xffffffffL) / 256 % 6));
    }

    private static void aSaying() {
        due.term(2, "SAYS: a SAYING is a row of WORDS (12 at most, one at least).");
        EchoFolk x = Due.plain(1);
        Due.words(x, 0, 1);
        Due.shorts(x, 0);
        due.is("no word", x.breaths(0, 0), SIZE);
        Due.shorts(x, 0, 1);
        due.is("one word", x.breaths(0, 0), 1);
        Due.shorts(x, 0, 1, 1, 1, 1, 1, 1, 1, 1, 1, 1, 1, 1);
        due.is("twelve words", x.breaths(0, 0), 12);
        Due.shorts(x, 0, 1, 1, 1, 1, 1, 1, 1, 1, 1, 1, 1, 1, 2);
        due.is("the thirteenth is none of it", x.breaths(0, 0), 12);
        Due.shorts(x, 0, 1, 1, 1, 1, 1, 1, 1, 1, 1, 1, 1, 2);
        due.is("the twelfth is", x.breaths(0, 0), NONE);
    }

    private static void pieces() {
        due.term(2, "A SPEAKER can say it by b BREATHS, if it is b pieces one behind the other, each a row of 1 or more, GOES at most, WORDS that stand one behind the other in its HEARD as well.");
        EchoFolk x = Due.plain(1);
        Due.words(x, 0, 1, 2, 3, 4, 1, 3);
        int[][] sayings = {{1, 2, 3}, {1, 2, 3, 4}, {4, 1, 3}, {1, 3}, {1, 4}, {2, 4}, {3, 2, 1}, {1, 3, 4, 1}, {3, 1}, {2, 3, 1, 2, 3}, {5}, {1, 2, 5}};
        int[] breaths = {1, 2, 1, 1, 2, 2, 3, 2, 2, 2, NONE, NONE};
        for (int i = 0; i < sayings.length; i++) {
            Due.shorts(x, 0, sayings[i]);
            due.is("breaths of saying " + i, x.breaths(0, 0), breaths[i]);
        }
    }

    private static void belowTalk() {
        due.term(2, "A DAY: (1) a draw; if its rest by 100 is below TALK (and there are 2 SPEAKERS or more)");
        int[][] talkAndRest = {{50, 49, 1}, {50, 50, 0}, {0, 0, 0}, {1, 0, 1}, {1, 1, 0}, {99, 98, 1}, {99, 99, 0}, {100, 99, 1}, {100, 0, 1}};
        for (int[] t : talkAndRest) {
            EchoFolk x = Due.plain(2);
            Due.words(x, 0, 1);
            Due.words(x, 1, 1);
            x.talk(t[0]);
            int z = Due.seedFor(100, t[1]);
            x.seed(z);
            due.is("talk " + t[0] + ", rest " + t[1], x.days(1), t[2]);
            due.is("draws", x.count(6), Due.afterDraws(z, t[2] == 1 ? 4 : 1));
        }
    }

    private static void twoOrMore() {
        due.term(2, "(and there are 2 SPEAKERS or more)");
        for (int many = 0; many <= 2; many++) {
            EchoFolk x = Due.plain(many);
            for (int i = 0; i < many; i++) x.speaks(i, 1, 2, 3);
            x.talk(100);
            due.is(many + " speakers", x.days(1), many == 2 ? 1 : 0);
            due.is("draws", x.count(6), Due.afterDraws(1, many == 2 ? 4 : 1));
            due.is("the day", x.count(1), 1);
        }
    }

    private static void theOneWhoSpeaks() {
        due.term(2, ": a draw, the one who speaks is its rest by how many there are;");
        for (int first = 0; first < 8; first++) {
            EchoFolk x = Due.plain(8);
            for (int i = 0; i < 8; i++) x.speaks(i, i, -1, -1);
            x.seed(Due.seedFor(100, 0, 8, first));
            due.is("days(1)", x.days(1), 1);
            for (int i = 0; i < 8; i++) due.is("said", x.told(i, 3), i == first ? 1 : 0);
        }
    }

    private static void theOtherOne() {
        due.term(2, "one more draw, the other one is the rest by how many less 1 (those from the first one on are 1 more).");
        for (int first = 0; first < 3; first++) {
            for (int rest = 0; rest < 2; rest++) {
                EchoFolk x = Due.plain(3);
                for (int i = 0; i < 3; i++) x.speaks(i, i, i, i);
                x.seed(Due.seedFor(100, 0, 3, first, 2, rest, 3, 2));
                due.is("days(1)", x.days(1), 1);
                int[][] others = {{1, 2}, {0, 2}, {0, 1}};
                int other = others[first][rest];
                for (int i = 0; i < 3; i++) due.is("words", x.told(i, 4), i == other ? 4 : 3);
                due.is("the word", x.heard(other, 3), first);
            }
        }
    }

    private static void thePiece() {
        due.term(2, "one more draw; it speaks the piece of its HEARD that begins at the rest by how many WORDS it has, as many as it GOES (fewer, if there are no more)");
        for (int rest = 0; rest < 5; rest++) {
            EchoFolk x = Due.plain(2);
            Due.words(x, 0, 10, 11, 12, 13, 14);
            int z = Due.seedFor(100, 0, 2, 0, 1, 0, 5, rest);
            x.seed(z);
            due.is("days(1)", x.days(1), 1);
            int[] many = {3, 3, 3, 2, 1};
            due.is("how many", x.told(1, 4), many[rest]);
            for (int k = 0; k < many[rest]; k++) due.is("word", x.heard(1, k), 10 + rest + k);
            due.is("said", x.told(0, 3), many[rest]);
            due.is("four draws", x.count(6), Due.afterDraws(z, 4));
        }
    }

    private static void withoutWords() {
        due.term(2, "If its HEARD has WORDS: one more draw;");
        for (int words = 0; words < 2; words++) {
            EchoFolk x = Due.plain(2);
            Due.words(x, 1, 1, 2);
            if (words == 1) x.speaks(0, 5, -1, -1);
            int z = Due.seedFor(100, 0, 2, 0);
            x.seed(z);
            due.is("spoken in it", x.days(1), words);
            due.is("draws", x.count(6), Due.afterDraws(z, 3 + words));
            due.is("the other one has", x.told(1, 4), 2 + words);
            due.is("the day", x.count(1), 1);
        }
    }

    private static void theOtherOneHears() {
        due.term(2, ": the other one HEARS it (SAID of the one more by how many these are; SPOKEN 1 more).");
        EchoFolk x = Due.plain(2);
        Due.words(x, 0, 1, 2, 3);
        x.set(1, 1, 2);
        x.seed(Due.seedFor(100, 0, 2, 0, 1, 0, 3, 0));
        x.days(1);
        due.is("two are taken", x.told(1, 4), 2);
        due.is("three are said", x.told(0, 3), 3);
        due.is("spoken once", x.folk(0), 1);
        x.turns(1, 5);
        x.seed(Due.seedFor(100, 0, 2, 0, 1, 0, 3, 1));
        x.days(1);
        due.is("a deaf one forgets what it had", x.told(1, 4), 0);
        due.is("lost", x.folk(1), 2);
        due.is("two more are said", x.told(0, 3), 5);
        due.is("spoken twice", x.folk(0), 2);
        due.is("the other one says nothing", x.told(1, 3), 0);
    }

    private static void oneMoreDay() {
        due.term(2, "THE DAY is 1 more.");
        EchoFolk x = Due.plain(2);
        for (int i = 1; i < 5; i++) {
            if (i == 3) Due.words(x, 0, 1);
            x.talk(i % 2 * 100);
            x.days(1);
            due.is("the day", x.count(1), i);
        }
    }

    private static void days() {
        due.promise(14, "n (1 .. 100) DAYS (no more than up to 9999): SPOKEN in them.");
        EchoFolk x = Due.plain(2);
        Due.words(x, 0, 1);
        Due.words(x, 1, 1);
        x.talk(100);
        due.is("one", x.days(1), 1);
        due.is("the day", x.count(1), 1);
        due.is("a hundred", x.days(100), 100);
        due.is("the day", x.count(1), 101);
        due.is("spoken in all", x.folk(0), 101);
        x.talk(0);
        due.is("in these days alone", x.days(100), 0);
        due.is("a hundred draws", x.count(6), Due.afterDraws(1, 4 * 101 + 100));
        due.promise(14, "BAD.");
        int[] bad = {0, -1, 101, MOST, LEAST};
        for (int n : bad) due.is("days", x.days(n), BAD);
        due.is("the day", x.count(1), 201);
        due.is("no draw", x.count(6), Due.afterDraws(1, 4 * 101 + 100));
    }

    private static void daysFromALot() {
        due.promise(14, "DAYS (no more than up to 9999): SPOKEN in them.");
        EchoFolk x = Due.plain(2);
        Due.words(x, 0, 1, 2, 3);
        x.talk(100);
        x.seed(Due.seedFor(1, 0, 2, 0, 1, 0, 3, 2, 1, 0, 2, 1, 1, 0, 1, 0, 1, 0, 2, 0, 1, 0, 4, 1));
        due.is("three lessons", x.days(3), 3);
        int[] first = {1, 2, 3, 3, NONE};
        int[] second = {3, 2, 3, 3, NONE};
        for (int k = 0; k < 5; k++) due.is("from 1 to 0: 3", x.heard(0, k), first[k]);
        for (int k = 0; k < 5; k++) due.is("from 0 to 1: 3, then 2, 3, 3", x.heard(1, k), second[k]);
    }

    private static void theLastDay() {
        due.promise(14, "(no more than up to 9999)");
        EchoFolk x = new EchoFolk();
        for (int i = 0; i < 99; i++) x.days(100);
        x.days(97);
        x.speaker(0, 9, 0);
        x.speaker(0, 9, 0);
        Due.words(x, 0, 1);
        Due.words(x, 1, 1);
        x.talk(100);
        due.is("the day", x.count(1), 9997);
        due.is("two are left", x.days(100), 2);
        due.is("the day", x.count(1), 9999);
        due.is("no draws for others", x.count(6), Due.afterDraws(1, 9997 + 8));
        due.is("none is left", x.days(1), 0);
        due.is("none is left", x.days(100), 0);
        due.is("the day", x.count(1), 9999);
        due.is("no draw", x.count(6), Due.afterDraws(1, 9997 + 8));
        due.is("bad, though none is left", x.days(101), BAD);
    }

    private static void folk() {
        due.promise(15, "What is 0 SPOKEN, 1 LOST, 2 how many WORDS all have, together, 3 WORDS that somebody has, as a set, 4 those that all have, as a set (0 without SPEAKERS).");
        EchoFolk x = new EchoFolk();
        for (int what = 0; what < 5; what++) due.is("without speakers", x.folk(what), 0);
        x.speaker(0, 9, 0);
        x.speaks(0, 0, 19, 0);
        int[] one = {0, 0, 3, Due.set(0, 19), Due.set(0, 19)};
        for (int what = 0; what < 5; what++) due.is("one", x.folk(what), one[what]);
        x.speaker(5, 9, 0);
        int[] two = {0, 0, 3, Due.set(0, 19), 0};
        for (int what = 0; what < 5; what++) due.is("a deaf one has none", x.folk(what), two[what]);
        x.turns(1, 0);
        x.speaks(1, 19, 7, -1);
        x.says(0, 1, 1);
        x.says(1, 0, 0);
        x.speaks(1, 8, -1, -1);
        int[] then = {2, 0, 11, Due.set(0, 7, 8, 19), Due.set(0, 7, 19)};
        for (int what = 0; what < 5; what++) due.is("two", x.folk(what), then[what]);
        x.forgets(0);
        x.forgets(1);
        int[] last = {2, 11, 0, 0, 0};
        for (int what = 0; what < 5; what++) due.is("all is forgotten", x.folk(what), last[what]);
        due.promise(15, "BAD.");
        int[] bad = {-1, 5, MOST, LEAST};
        for (int b : bad) due.is("folk", x.folk(b), BAD);
    }
}
