/** Speakers and words: the first sentences of term 1, and promises 1 to 13. */
public final class SpeakersTest {
    private static final int BAD = -1000000001, NO = -1000000002, FULL = -1000000003, NONE = -1000000005;
    private static final int NOTHING = -1000000011, KIND = -1000000012;
    private static final int MOST = Integer.MAX_VALUE, LEAST = Integer.MIN_VALUE;
    private static final Due due = new Due("SpeakersTest");

    public static void main(String[] args) {
        sets();
        words();
        eightAtMost();
        twelveAtMost();
        earFameSaid();
        talkAndTheRest();
        aNewObject();
        speaker();
        told();
        heard();
        as();
        turns();
        set();
        speaks();
        says();
        saysAPiece();
        forgets();
        talk();
        deal();
        dealByLot();
        seed();
        due.end();
    }

    private static void sets() {
        due.term(0, "Sets of SPEAKERS, of WORDS are told by bits.");
        EchoFolk x = Due.plain(8);
        x.speaks(7, 0, -1, -1);
        due.is("word 0", x.told(7, 5), 1);
        x.speaks(7, 19, 19, -1);
        due.is("words 0 and 19", x.told(7, 5), 1 + 524288);
        due.is("no words", x.told(0, 5), 0);
        x.speaks(0, 19, -1, -1);
        Due.shorts(x, 0, 19);
        due.is("speakers 0 and 7", x.who(0), 1 + 128);
    }

    private static void words() {
        due.term(1, "WORDS are 0 .. 19.");
        EchoFolk x = Due.plain(1);
        due.is("the least", x.speaks(0, 0, -1, -1), 1);
        due.is("the greatest", x.speaks(0, 19, -1, -1), 2);
        due.is("above it", x.speaks(0, 20, -1, -1), BAD);
        due.is("below it, and not none", x.speaks(0, -2, -1, -1), BAD);
        due.is("spreads(0)", x.spreads(0), 0);
        due.is("spreads(19)", x.spreads(19), 0);
        due.is("spreads(-1)", x.spreads(-1), BAD);
        due.is("spreads(20)", x.spreads(20), BAD);
    }

    private static void eightAtMost() {
        due.term(1, "SPEAKERS, 8 at most, numbered from 0:");
        EchoFolk x = new EchoFolk();
        due.is("there is no 0", x.told(0, 2), BAD);
        for (int i = 0; i < 8; i++) due.is("the next number", x.speaker(0, 1, i), i);
        due.is("a ninth", x.speaker(0, 1, 8), FULL);
        for (int i = 0; i < 8; i++) due.is("by its number", x.told(i, 2), i);
        due.is("there is no 8", x.told(8, 2), BAD);
        due.is("there is no -1", x.told(-1, 2), BAD);
    }

    private static void twelveAtMost() {
        due.term(1, "HEARD, a row of WORDS (12 at most, oldest first; none at first),");
        EchoFolk x = Due.plain(1);
        due.is("none at first", x.told(0, 4), 0);
        due.is("none at first", x.heard(0, 0), NONE);
        Due.words(x, 0, 1, 2, 3, 4, 5, 6, 7, 8, 9, 10, 11);
        due.is("eleven", x.told(0, 4), 11);
        x.speaks(0, 12, -1, -1);
        due.is("twelve", x.told(0, 4), 12);
        x.speaks(0, 13, -1, -1);
        due.is("not thirteen", x.told(0, 4), 12);
        due.is("the oldest first", x.heard(0, 0), 2);
        due.is("the newest last", x.heard(0, 11), 13);
    }

    private static void earFameSaid() {
        due.term(1, "EAR 1 .. 9, FAME 0 .. 99, SAID (how many WORDS it has spoken; 0 at first),");
        EchoFolk x = new EchoFolk();
        due.is("ear 1, fame 0", x.speaker(0, 1, 0), 0);
        due.is("ear 9, fame 99", x.speaker(0, 9, 99), 1);
        due.is("ear 0", x.speaker(0, 0, 0), BAD);
        due.is("ear 10", x.speaker(0, 10, 0), BAD);
        due.is("fame -1", x.speaker(0, 1, -1), BAD);
        due.is("fame 100", x.speaker(0, 1, 100), BAD);
        due.is("said nothing", x.told(1, 3), 0);
        Due.words(x, 1, 4, 5, 6, 7);
        due.is("hearing is no saying", x.told(1, 3), 0);
        x.says(1, 0, 0);
        due.is("three, though one was taken", x.told(1, 3), 3);
        x.says(1, 0, 3);
        due.is("one more", x.told(1, 3), 4);
        due.is("the other one said nothing", x.told(0, 3), 0);
    }

    private static void talkAndTheRest() {
        due.term(1, "TALK 0 .. 100 (50 at first).");
        EchoFolk x = Due.plain(2);
        due.is("talk(0)", x.talk(0), 50);
        due.is("talk(100)", x.talk(100), 0);
        due.is("talk(-1)", x.talk(-1), BAD);
        due.is("talk(101)", x.talk(101), BAD);
        due.is("it stays", x.count(2), 100);
        due.term(1, "SPOKEN, LOST (WORDS that were forgotten) are 0 at first; THE DAY is 0 at first, 9999 at most.");
        due.is("spoken", x.folk(0), 0);
        due.is("lost", x.folk(1), 0);
        due.is("the day", x.count(1), 0);
        Due.words(x, 0, 1, 2);
        x.says(0, 1, 0);
        x.forgets(1);
        due.is("spoken", x.folk(0), 1);
        due.is("lost", x.folk(1), 2);
        for (int i = 0; i < 99; i++) x.days(100);
        x.days(99);
        due.is("the day", x.count(1), 9999);
        x.days(1);
        due.is("the day", x.count(1), 9999);
    }

    private static void aNewObject() {
        due.promise(1, "As told; no SPEAKERS.");
        EchoFolk x = new EchoFolk();
        int[] counts = {0, 0, 50, 0, 0, 0, 1};
        for (int i = 0; i < counts.length; i++) due.is("count", x.count(i), counts[i]);
        for (int i = 0; i < 5; i++) due.is("folk", x.folk(i), 0);
        for (int i = 0; i < 8; i++) due.is("no speaker", x.told(i, 0), BAD);
        for (int i = 0; i < 4; i++) due.is("sheets are missing", x.reads(i), NOTHING);
        for (int i = 0; i < 5; i++) due.is("slots hold nothing", x.rest(i, 1), NOTHING);
        for (int i = 0; i < 3; i++) due.is("no text counts", x.why(i), NONE);
        due.is("no text", x.textTold(0, 0), BAD);
        due.is("no image", x.back(), NO);
        due.is("no image", x.check(1), NO);
        due.is("spoken", x.fee(), 0);
        EchoFolk other = Due.plain(3);
        due.is("objects are their own", new EchoFolk().count(0), other.count(0) - 3);
    }

    private static void speaker() {
        due.promise(2, "One more SPEAKER: its number.");
        EchoFolk x = new EchoFolk();
        for (int i = 0; i < 6; i++) due.is("kind " + i, x.speaker(i, 1 + i, 99 - i), i);
        for (int i = 0; i < 6; i++) {
            int[] told = {i, 1 + i, 99 - i, 0, 0, 0};
            for (int what = 0; what < 6; what++) due.is("told", x.told(i, what), told[what]);
        }
        due.is("count(0)", x.count(0), 6);
        due.promise(2, "BAD;");
        int[][] bad = {{-1, 1, 0}, {6, 1, 0}, {0, 0, 0}, {0, 10, 0}, {0, 1, -1}, {0, 1, 100}, {MOST, 1, 0}, {LEAST, 1, 0},
            {0, MOST, 0}, {0, LEAST, 0}, {0, 1, MOST}, {0, 1, LEAST}};
        for (int[] b : bad) due.is("speaker", x.speaker(b[0], b[1], b[2]), BAD);
        due.is("none came", x.count(0), 6);
        due.is("the least", x.speaker(0, 1, 0), 6);
        due.is("the greatest", x.speaker(5, 9, 99), 7);
        due.is("bad stands ahead of full", x.speaker(6, 1, 0), BAD);
        due.promise(2, "FULL.");
        due.is("a ninth", x.speaker(0, 1, 0), FULL);
        due.is("none came", x.count(0), 8);
        due.is("the last one stays", x.told(7, 0), 5);
    }

    private static void told() {
        due.promise(3, "Of a SPEAKER: what 0 KIND, 1 EAR, 2 FAME, 3 SAID, 4 how many WORDS it has HEARD, 5 these, as a set, 6 KEEPS, 7 TAKES, 8 GOES, 9 WORTH.");
        EchoFolk x = Due.plain(1);
        x.speaker(3, 7, 40);
        x.speaks(1, 19, 0, 19);
        x.says(1, 0, 1);
        int[] told = {3, 7, 40, 2, 3, Due.set(0, 19), 9, 9, 4, 92};
        for (int what = 0; what < 10; what++) due.is("told(1, " + what + ")", x.told(1, what), told[what]);
        due.promise(3, "BAD.");
        int[][] bad = {{1, -1}, {1, 10}, {2, 0}, {2, 9}, {-1, 0}, {8, 0}, {1, MOST}, {1, LEAST}, {MOST, 0}, {LEAST, 0}};
        for (int[] b : bad) due.is("told", x.told(b[0], b[1]), BAD);
    }

    private static void heard() {
        due.promise(4, "The WORD at place k (0 .. 11) of its HEARD (0: the oldest).");
        EchoFolk x = Due.plain(2);
        Due.words(x, 0, 5, 6, 7, 8, 9, 10, 11, 12, 13, 14, 15, 0);
        for (int k = 0; k < 11; k++) due.is("heard(0, " + k + ")", x.heard(0, k), 5 + k);
        due.is("the last place", x.heard(0, 11), 0);
        x.speaks(0, 1, 2, -1);
        due.is("the oldest by now", x.heard(0, 0), 7);
        due.promise(4, "BAD; NONE: there is none.");
        int[][] bad = {{0, 12}, {0, -1}, {2, 0}, {-1, 0}, {8, 0}, {0, MOST}, {0, LEAST}, {MOST, 0}, {LEAST, 0}, {2, 12}};
        for (int[] b : bad) due.is("heard", x.heard(b[0], b[1]), BAD);
        for (int k = 0; k < 12; k++) due.is("there is none", x.heard(1, k), NONE);
        x.speaks(1, 3, 4, -1);
        due.is("the last of two", x.heard(1, 1), 4);
        due.is("behind it", x.heard(1, 2), NONE);
        x.forgets(0);
        due.is("forgotten", x.heard(0, 0), NONE);
    }

    private static void as() {
        due.promise(5, "A SPEAKER as one of a KIND: FAME.");
        EchoFolk x = new EchoFolk();
        x.speaker(3, 1, 13);
        x.speaker(4, 1, 14);
        due.is("a lover as a lover", x.as(0, 3), 13);
        due.is("a lover as a child", x.as(0, 1), 13);
        due.is("a lover as a speaker", x.as(0, 0), 13);
        due.is("a liar as an elder", x.as(1, 2), 14);
        due.promise(5, "BAD: speaker, kind;");
        int[][] bad = {{2, 0}, {-1, 0}, {8, 0}, {0, 6}, {0, -1}, {0, MOST}, {0, LEAST}, {MOST, 0}, {LEAST, 0}, {2, 3}};
        for (int[] b : bad) due.is("as", x.as(b[0], b[1]), BAD);
        due.promise(5, "KIND: it is not of that KIND, nor of one under it.");
        due.is("a lover as an elder", x.as(0, 2), KIND);
        due.is("a lover as a liar", x.as(0, 4), KIND);
        due.is("a lover as a deaf one", x.as(0, 5), KIND);
        x.turns(0, 1);
        due.is("a child as a lover", x.as(0, 3), KIND);
        x.turns(0, 0);
        for (int kind = 1; kind < 6; kind++) due.is("a speaker as another", x.as(0, kind), KIND);
    }

    private static void turns() {
        due.promise(6, "A SPEAKER is of another KIND from now on: what it was.");
        EchoFolk x = Due.plain(2);
        Due.words(x, 0, 1, 2, 3);
        due.is("to the last kind", x.turns(0, 5), 0);
        due.is("kind", x.told(0, 0), 5);
        due.is("what it has stays", x.told(0, 4), 3);
        due.is("ear stays", x.told(0, 1), 9);
        due.is("fame stays", x.told(0, 2), 10);
        due.is("nothing is lost", x.folk(1), 0);
        due.is("the other one stays", x.told(1, 0), 0);
        due.is("to the same", x.turns(0, 5), 5);
        due.is("to the first kind", x.turns(0, 0), 5);
        due.is("kind", x.told(0, 0), 0);
        due.promise(6, "BAD.");
        int[][] bad = {{0, 6}, {0, -1}, {2, 0}, {-1, 0}, {8, 0}, {0, MOST}, {0, LEAST}, {MOST, 0}, {LEAST, 0}};
        for (int[] b : bad) due.is("turns", x.turns(b[0], b[1]), BAD);
        due.is("it stays", x.told(0, 0), 0);
    }

    private static void set() {
        due.promise(7, "EAR, FAME (what 1, 2) of a SPEAKER becomes v: what it was.");
        EchoFolk x = Due.plain(2);
        due.is("the least ear", x.set(0, 1, 1), 9);
        due.is("ear", x.told(0, 1), 1);
        due.is("the greatest ear", x.set(0, 1, 9), 1);
        due.is("ear", x.told(0, 1), 9);
        due.is("the greatest fame", x.set(0, 2, 99), 10);
        due.is("fame", x.told(0, 2), 99);
        due.is("the least fame", x.set(0, 2, 0), 99);
        due.is("fame", x.told(0, 2), 0);
        due.is("the other one stays", x.told(1, 2), 11);
        due.promise(7, "BAD.");
        int[][] bad = {{0, 1, 0}, {0, 1, 10}, {0, 2, -1}, {0, 2, 100}, {0, 0, 1}, {0, 3, 1}, {0, -1, 1}, {2, 1, 1}, {-1, 1, 1},
            {0, 1, MOST}, {0, 1, LEAST}, {0, 2, MOST}, {0, 2, LEAST}, {0, MOST, 1}, {0, LEAST, 1}, {MOST, 1, 1}, {LEAST, 1, 1}};
        for (int[] b : bad) due.is("set", x.set(b[0], b[1], b[2]), BAD);
        due.is("ear stays", x.told(0, 1), 9);
        due.is("fame stays", x.told(0, 2), 0);
    }

    private static void speaks() {
        due.promise(8, "Somebody from without speaks three WORDS (each 0 .. 19, or -1: none) to a SPEAKER, in order, which HEARS them: how many it has HEARD then.");
        EchoFolk x = Due.plain(3);
        due.is("three", x.speaks(0, 19, 0, 7), 3);
        int[] heard = {19, 0, 7};
        for (int k = 0; k < 3; k++) due.is("in order", x.heard(0, k), heard[k]);
        due.is("none is no word", x.speaks(0, -1, 5, -1), 4);
        due.is("in order", x.heard(0, 3), 5);
        due.is("none at all", x.speaks(0, -1, -1, -1), 4);
        x.set(1, 1, 1);
        due.is("one is taken", x.speaks(1, -1, -1, 4), 1);
        due.is("the first that is one", x.heard(1, 0), 4);
        x.set(2, 1, 2);
        due.is("two are taken", x.speaks(2, 6, -1, 8), 2);
        due.is("in order", x.heard(2, 1), 8);
        due.is("nobody of them has spoken", x.folk(0), 0);
        x.turns(0, 1);
        Due.words(x, 0, 1, 2);
        due.is("a child keeps six", x.speaks(0, 3, 4, 5), 6);
        due.is("lost", x.folk(1), 3);
        due.promise(8, "BAD.");
        int[][] bad = {{0, 20, 0, 0}, {0, 0, 20, 0}, {0, 0, 0, 20}, {0, -2, 0, 0}, {0, 0, -2, 0}, {0, 0, 0, -2}, {3, 0, 0, 0}, {-1, 0, 0, 0},
            {0, MOST, 0, 0}, {0, 0, LEAST, 0}, {0, 0, 0, NONE}, {MOST, 0, 0, 0}, {LEAST, 0, 0, 0}, {3, -1, -1, -1}};
        for (int[] b : bad) due.is("speaks", x.speaks(b[0], b[1], b[2], b[3]), BAD);
        due.is("it stays", x.told(0, 4), 6);
        due.is("it stays", x.heard(0, 5), 5);
    }

    private static void says() {
        due.promise(9, "BAD: also to itself;");
        EchoFolk x = Due.plain(3);
        Due.words(x, 0, 1, 2, 3, 4, 5, 6, 7, 8, 9, 10, 11, 12);
        int[][] bad = {{0, 0, 0}, {0, 3, 0}, {3, 0, 0}, {-1, 0, 0}, {0, -1, 0}, {0, 1, -1}, {0, 1, 12}, {1, 1, 0},
            {0, 8, 0}, {0, MOST, 0}, {LEAST, 0, 0}, {0, 1, MOST}, {0, 1, LEAST}, {1, 0, 12}};
        for (int[] b : bad) due.is("says", x.says(b[0], b[1], b[2]), BAD);
        due.is("nothing was spoken", x.folk(0), 0);
        due.promise(9, "NONE: there is no WORD at k.");
        due.is("at the first place of none", x.says(1, 0, 0), NONE);
        due.is("at the last place of none", x.says(1, 0, 11), NONE);
        due.is("nothing was spoken", x.folk(0), 0);
        x.speaks(1, 1, 2, -1);
        due.is("behind the last word", x.says(1, 2, 2), NONE);
        due.is("the last word", x.says(1, 2, 1), 1);
        due.is("of twelve words the last", x.says(0, 2, 11), 1);
        due.is("heard", x.heard(2, 1), 12);
    }

    private static void saysAPiece() {
        due.promise(9, "A SPEAKER speaks the piece of its HEARD from place k (0 .. 11) on, as many as it GOES (fewer, if there are no more), to another one, which HEARS it (SAID, SPOKEN as in a DAY): how many these are.");
        EchoFolk x = Due.plain(3);
        Due.words(x, 0, 1, 2, 3, 4, 5);
        due.is("as many as it goes", x.says(0, 1, 1), 3);
        int[] heard = {2, 3, 4};
        for (int k = 0; k < 3; k++) due.is("heard", x.heard(1, k), heard[k]);
        due.is("just as many", x.says(0, 1, 2), 3);
        due.is("one fewer", x.says(0, 1, 3), 2);
        due.is("two fewer", x.says(0, 1, 4), 1);
        due.is("heard", x.told(1, 4), 9);
        due.is("said", x.told(0, 3), 9);
        due.is("spoken", x.folk(0), 4);
        x.turns(2, 5);
        due.is("to a deaf one, who takes none", x.says(0, 2, 0), 3);
        due.is("heard nothing", x.told(2, 4), 0);
        due.is("said", x.told(0, 3), 12);
        due.is("spoken", x.folk(0), 5);
        due.is("the one who speaks keeps all", x.told(0, 4), 5);
        x.turns(1, 1);
        due.is("a child goes two", x.says(1, 0, 0), 2);
        due.is("heard", x.told(0, 4), 7);
        due.is("no day has passed", x.count(1), 0);
        due.is("nothing was drawn", x.count(6), 1);
    }

    private static void forgets() {
        due.promise(10, "A SPEAKER forgets all (LOST more by them): how many.");
        EchoFolk x = Due.plain(2);
        due.is("nothing", x.forgets(0), 0);
        Due.words(x, 0, 1, 2, 3, 4, 5, 6, 7, 8, 9, 10, 11, 12);
        Due.words(x, 1, 1, 2);
        due.is("twelve", x.forgets(0), 12);
        due.is("lost", x.folk(1), 12);
        due.is("again", x.forgets(0), 0);
        due.is("has none", x.told(0, 4), 0);
        due.is("the other one has its own", x.told(1, 4), 2);
        due.is("two more", x.forgets(1), 2);
        due.is("lost", x.folk(1), 14);
        due.promise(10, "BAD.");
        int[] bad = {2, -1, 8, MOST, LEAST};
        for (int b : bad) due.is("forgets", x.forgets(b), BAD);
    }

    private static void talk() {
        due.promise(11, "TALK becomes v: what it was.");
        EchoFolk x = new EchoFolk();
        int[] was = {50, 0, 1, 99, 100};
        int[] v = {0, 1, 99, 100, 50};
        for (int i = 0; i < v.length; i++) {
            due.is("talk(" + v[i] + ")", x.talk(v[i]), was[i]);
            due.is("count(2)", x.count(2), v[i]);
        }
        due.promise(11, "BAD.");
        int[] bad = {-1, 101, MOST, LEAST};
        for (int b : bad) due.is("talk", x.talk(b), BAD);
        due.is("it stays", x.count(2), 50);
    }

    private static void deal() {
        due.promise(12, "SPEAKERS are drawn, n (1 .. 8) of them, as many as there is room for (no draws for others): how many came.");
        EchoFolk x = new EchoFolk();
        due.is("one", x.deal(1), 1);
        due.is("three draws", x.count(6), Due.afterDraws(1, 3));
        due.is("five", x.deal(5), 5);
        due.is("eighteen draws", x.count(6), Due.afterDraws(1, 18));
        due.is("there is room for two", x.deal(3), 2);
        due.is("no draws for the third", x.count(6), Due.afterDraws(1, 24));
        due.is("no room", x.deal(1), 0);
        due.is("no room", x.deal(8), 0);
        due.is("no draws", x.count(6), Due.afterDraws(1, 24));
        due.is("eight", x.count(0), 8);
        EchoFolk y = new EchoFolk();
        due.is("eight at once", y.deal(8), 8);
        EchoFolk z = new EchoFolk();
        for (int i = 0; i < 7; i++) z.deal(1);
        due.is("just enough room", z.deal(1), 1);
        for (int i = 0; i < 8; i++) for (int what = 0; what < 3; what++) due.is("the same draws", z.told(i, what), y.told(i, what));
        due.promise(12, "BAD.");
        EchoFolk a = new EchoFolk();
        int[] bad = {0, 9, -1, MOST, LEAST};
        for (int b : bad) due.is("deal", a.deal(b), BAD);
        for (int b : bad) due.is("bad, though there is no room", y.deal(b), BAD);
        due.is("no draws", a.count(6), 1);
    }

    private static void dealByLot() {
        due.term(2, "SPEAKERS that are drawn: KIND the rest of a draw by 6, EAR 1 and that of one more by 9, FAME that of one more by 100.");
        int[][] drawn = {{3, 8, 42}, {0, 0, 0}, {5, 8, 99}, {5, 0, 0}, {0, 8, 99}};
        for (int[] d : drawn) {
            EchoFolk x = new EchoFolk();
            x.seed(Due.seedFor(6, d[0], 9, d[1], 100, d[2]));
            x.deal(1);
            due.is("kind", x.told(0, 0), d[0]);
            due.is("ear", x.told(0, 1), 1 + d[1]);
            due.is("fame", x.told(0, 2), d[2]);
            due.is("said", x.told(0, 3), 0);
            due.is("heard", x.told(0, 4), 0);
        }
    }

    private static void seed() {
        due.promise(13, "z becomes v: what it was.");
        EchoFolk x = new EchoFolk();
        int[] v = {-7, LEAST, MOST, 0, BAD, 1};
        int was = 1;
        for (int next : v) {
            due.is("seed(" + next + ")", x.seed(next), was);
            due.is("count(6)", x.count(6), next);
            was = next;
        }
    }
}
