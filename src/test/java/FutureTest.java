/** What will be, and what fee and fine give: the last sentences of term 3, and promises 20 to 26. */
public final class FutureTest {
    private static final int BAD = -1000000001, NONE = -1000000005;
    private static final int MOST = Integer.MAX_VALUE, LEAST = Integer.MIN_VALUE;
    private static final Due due = new Due("FutureTest");

    public static void main(String[] args) {
        fromNowOn();
        withoutTheBoundOfTheDay();
        behindDays();
        behind();
        spreadsFirst();
        spreadsWithin200Days();
        spreads();
        learnsTheLeast();
        learns();
        quietest();
        quiet();
        bestEar();
        ears();
        fee();
        fine();
        due.end();
    }

    /** On the first day 0 speaks 3 to 1, on the second 1 speaks its oldest word to 0, on the third 0 speaks 2, 3, 3 to 1. */
    private static EchoFolk twoWhoWillTalk() {
        EchoFolk x = Due.plain(2);
        Due.words(x, 0, 1, 2, 3);
        x.talk(100);
        x.seed(Due.seedFor(1, 0, 2, 0, 1, 0, 3, 2, 1, 0, 2, 1, 1, 0, 1, 0, 1, 0, 2, 0, 1, 0, 4, 1));
        return x;
    }

    private static void fromNowOn() {
        due.term(3, "(From now on, z as it is, without the bound of THE DAY: nothing changes.)");
        EchoFolk x = twoWhoWillTalk();
        int z = x.count(6);
        for (int round = 0; round < 2; round++) {
            due.is("behind", x.behind(3, 4), Due.set(2, 3));
            due.is("spreads", x.spreads(2), 3);
            due.is("learns", x.learns(1, 3), 2);
            due.is("quiet", x.quiet(3, 1), 0);
            due.is("ears", x.ears(1, 3, 1), 2);
            due.is("z", x.count(6), z);
        }
        x.days(1);
        due.is("a day less", x.behind(2, 4), Due.set(2, 3));
        due.is("a day less", x.spreads(2), 2);
        due.is("a day less", x.learns(1, 2), 2);
        x.seed(x.count(6) + 1);
        due.is("another z", x.count(6), Due.afterDraws(z, 4) + 1);
        x.days(2);
        x.seed(z);
        due.is("it is a new lot", x.count(6), z);
    }

    private static void withoutTheBoundOfTheDay() {
        due.term(3, "without the bound of THE DAY");
        EchoFolk x = new EchoFolk();
        for (int i = 0; i < 100; i++) x.days(100);
        x.speaker(0, 9, 0);
        x.speaker(0, 9, 0);
        Due.words(x, 0, 1);
        Due.words(x, 1, 1);
        x.talk(100);
        due.is("there are no more days", x.days(100), 0);
        due.is("and yet", x.behind(100, 0), 100);
        x.forgets(1);
        due.is("spreads", x.spreads(1) > 0 ? 1 : 0, 1);
        due.is("learns", x.learns(1, 100), 1);
        due.is("quiet", x.quiet(100, 1), 0);
        due.is("ears", x.ears(1, 60, 1), 1);
        due.is("the day", x.count(1), 9999);
    }

    private static void behindDays() {
        due.term(3, "BEHIND n DAYS: SPOKEN; LOST; how many WORDS all have, together; WORDS of a SPEAKER, as a set.");
        EchoFolk x = twoWhoWillTalk();
        Due.text(x, "keep 3");
        int[][] by = {{0, 0, 3, 14, 0}, {1, 0, 4, 14, 8}, {2, 1, 4, 12, 8}};
        for (int n = 0; n < 3; n++) {
            for (int what = 0; what < 5; what++) due.is("behind(" + n + ", " + what + ")", x.behind(n, what), by[n][what]);
        }
        x.days(2);
        for (int what = 0; what < 5; what++) due.is("behind(0, " + what + ")", x.behind(0, what), by[2][what]);
        due.is("it is so then", x.folk(0), 2);
        due.is("it is so then", x.folk(1), 1);
        due.is("it is so then", x.told(0, 5), 12);
        x.forgets(0);
        due.is("in all, not in these days alone", x.behind(0, 1), 4);
    }

    private static void behind() {
        due.promise(20, "BEHIND n (0 .. 100) DAYS: what 0 SPOKEN, 1 LOST, 2 how many WORDS; 3 and k: WORDS of SPEAKER k, as a set.");
        EchoFolk x = Due.plain(8);
        for (int i = 0; i < 8; i++) x.speaks(i, 2 * i, 2 * i + 1, -1);
        x.talk(100);
        due.is("none", x.behind(0, 0), 0);
        due.is("none", x.behind(0, 1), 0);
        due.is("none", x.behind(0, 2), 16);
        for (int k = 0; k < 8; k++) due.is("speaker " + k, x.behind(0, 3 + k), 3 << 2 * k);
        due.is("a hundred", x.behind(100, 0), 100);
        int spoken = x.days(100);
        due.is("a hundred", spoken, 100);
        due.promise(20, "BAD.");
        int[][] bad = {{-1, 0}, {101, 0}, {1, -1}, {1, 11}, {0, 11}, {MOST, 0}, {LEAST, 0}, {1, MOST}, {1, LEAST}};
        for (int[] b : bad) due.is("behind", x.behind(b[0], b[1]), BAD);
        EchoFolk y = Due.plain(2);
        due.is("the last one", y.behind(1, 4), 0);
        due.is("behind the last one", y.behind(1, 5), BAD);
        due.is("there are none", new EchoFolk().behind(1, 3), BAD);
        due.is("there are none", new EchoFolk().behind(100, 2), 0);
    }

    private static void spreadsFirst() {
        due.term(3, "SPREADS of a WORD: behind how many DAYS (0 .. 200) all SPEAKERS that are not DEAF have it first.");
        EchoFolk x = twoWhoWillTalk();
        due.is("the first day", x.spreads(3), 1);
        due.is("the third day", x.spreads(2), 3);
        due.is("nobody has it", x.spreads(19), NONE);
        Due.words(x, 1, 1);
        due.is("all have it now", x.spreads(1), 0);
        x.talk(0);
        due.is("never", x.spreads(3), NONE);
        x.turns(1, 5);
        due.is("but the deaf", x.spreads(3), 0);
        x.turns(1, 0);
        x.turns(0, 5);
        due.is("the deaf one alone has it", x.spreads(3), NONE);
        x.turns(1, 5);
        due.is("all are deaf", x.spreads(19), 0);
        due.is("nobody is there", new EchoFolk().spreads(0), 0);
        EchoFolk y = twoWhoWillTalk();
        Due.text(y, "keep 1");
        due.is("though it is forgotten again", y.spreads(3), 1);
    }

    private static void spreadsWithin200Days() {
        due.term(3, "(0 .. 200)");
        for (int day = 199; day <= 201; day++) {
            EchoFolk x = Due.plain(2);
            Due.words(x, 0, 7);
            x.talk(1);
            x.seed(firstLessonOn(day));
            due.is("the day is 200 at most", x.spreads(7), day > 200 ? NONE : day);
            x.turns(1, 2);
            x.set(1, 1, 1);
            due.is("an elder of ear 1 takes none", x.spreads(7), NONE);
        }
    }

    /** A z with which, at talk 1, the first of two speakers speaks first on that day. */
    private static int firstLessonOn(int day) {
        for (int v = 0; ; v++) {
            int z = v;
            int quietDays = 0;
            while (true) {
                z = Due.afterDraws(z, 1);
                if ((z >>> 8) % 100 < 1) break;
                quietDays++;
            }
            if (quietDays == day - 1 && (Due.afterDraws(z, 1) >>> 8) % 2 == 0) return v;
        }
    }

    private static void spreads() {
        due.promise(21, "SPREADS of a WORD.");
        EchoFolk x = Due.plain(1);
        Due.words(x, 0, 0, 19);
        due.is("the first word", x.spreads(0), 0);
        due.is("the last word", x.spreads(19), 0);
        due.promise(21, "BAD; NONE: not by then.");
        int[] bad = {-1, 20, MOST, LEAST};
        for (int b : bad) due.is("spreads", x.spreads(b), BAD);
        due.is("not by then", x.spreads(1), NONE);
        due.is("bad, though nobody is there", new EchoFolk().spreads(20), BAD);
    }

    private static void learnsTheLeast() {
        due.term(3, "LEARNS of a SPEAKER, for n: the WORD it has then, behind n DAYS, and not now, the least.");
        EchoFolk x = twoWhoWillTalk();
        due.is("the first day", x.learns(1, 1), 3);
        due.is("the second day", x.learns(1, 2), 3);
        due.is("the third day, the least", x.learns(1, 3), 2);
        due.is("0 hears what it has", x.learns(0, 3), NONE);
        Due.words(x, 1, 3);
        due.is("it has it now", x.learns(1, 1), NONE);
        EchoFolk y = twoWhoWillTalk();
        Due.text(y, "keep 2");
        due.is("3, 3 on the third day, 2 is forgotten", y.learns(1, 3), 3);
        y.forgets(0);
        Due.words(y, 0, 7, 19, 0);
        due.is("two are kept", y.told(0, 4), 2);
        EchoFolk z = twoWhoWillTalk();
        z.forgets(0);
        Due.words(z, 0, 7, 19, 0);
        due.is("word 0", z.learns(1, 1), 0);
        z.forgets(0);
        Due.words(z, 0, 7, 0, 19);
        due.is("word 19", z.learns(1, 1), 19);
    }

    private static void learns() {
        due.promise(22, "LEARNS of a SPEAKER, for n (1 .. 100).");
        EchoFolk x = Due.plain(2);
        Due.words(x, 0, 5);
        x.talk(100);
        x.seed(Due.seedFor(100, 0, 2, 0));
        due.is("one day", x.learns(1, 1), 5);
        due.is("a hundred days", x.learns(1, 100), 5);
        due.promise(22, "BAD; NONE: none.");
        int[][] bad = {{2, 1}, {-1, 1}, {0, 0}, {0, 101}, {0, -1}, {8, 1}, {MOST, 1}, {LEAST, 1}, {0, MOST}, {0, LEAST}};
        for (int[] b : bad) due.is("learns", x.learns(b[0], b[1]), BAD);
        due.is("none", x.learns(0, 100), NONE);
        x.talk(0);
        due.is("none", x.learns(1, 100), NONE);
    }

    private static void quietest() {
        due.term(3, "QUIET for n: the SPEAKER without whose HEARD (none now) SPOKEN behind n DAYS is least; of several the least.");
        for (int first = 0; first < 3; first++) {
            EchoFolk x = Due.plain(3);
            for (int i = 0; i < 3; i++) x.speaks(i, 1, -1, -1);
            x.talk(100);
            x.says(0, 1, 0);
            x.seed(Due.seedFor(1, 0, 3, first));
            due.is("it would speak", x.quiet(1, 0), first);
            due.is("spoken in all", x.quiet(1, 1), 1);
            x.talk(0);
            due.is("of several the least", x.quiet(100, 0), 0);
            due.is("spoken in all", x.quiet(100, 1), 1);
        }
        EchoFolk y = twoWhoWillTalk();
        due.is("1 has nothing to say", y.quiet(3, 0), 0);
        due.is("without what 0 has", y.quiet(3, 1), 0);
        EchoFolk z = Due.plain(2);
        z.speaks(0, 1, -1, -1);
        z.speaks(1, 1, -1, -1);
        z.talk(100);
        z.seed(Due.seedFor(1, 0, 2, 0, 1, 0, 1, 0, 1, 0, 2, 1));
        due.is("without 1's: it hears 0 first, and speaks", z.quiet(2, 1), 1);
        due.is("without 0's", z.quiet(2, 0), 0);
    }

    private static void quiet() {
        due.promise(23, "QUIET for n (1 .. 100): what 0 the SPEAKER, 1 SPOKEN.");
        EchoFolk x = Due.plain(1);
        x.speaks(0, 1, 2, 3);
        due.is("one day", x.quiet(1, 0), 0);
        due.is("a hundred days", x.quiet(100, 0), 0);
        due.is("a hundred days", x.quiet(100, 1), 0);
        EchoFolk y = Due.plain(8);
        y.speaks(7, 1, 2, 3);
        y.talk(100);
        y.seed(Due.seedFor(1, 0, 8, 7));
        due.is("the last one", y.quiet(1, 0), 7);
        due.is("spoken", y.quiet(1, 1), 0);
        due.promise(23, "BAD; NONE: there are no SPEAKERS.");
        int[][] bad = {{0, 0}, {101, 0}, {-1, 0}, {1, 2}, {1, -1}, {MOST, 0}, {LEAST, 0}, {1, MOST}, {1, LEAST}};
        for (int[] b : bad) due.is("quiet", x.quiet(b[0], b[1]), BAD);
        for (int[] b : bad) due.is("bad stands ahead of none", new EchoFolk().quiet(b[0], b[1]), BAD);
        due.is("there are none", new EchoFolk().quiet(1, 0), NONE);
        due.is("there are none", new EchoFolk().quiet(100, 1), NONE);
    }

    private static void bestEar() {
        due.term(3, "EARS for n: the EAR 1 .. 9 of a SPEAKER with which it has most unlike WORDS behind n DAYS; of several the least.");
        EchoFolk x = Due.plain(2);
        x.set(1, 1, 1);
        Due.words(x, 0, 1, 2, 3, 4, 4, 4, 5);
        x.turns(0, 4);
        x.talk(100);
        x.seed(Due.seedFor(1, 0, 2, 0, 1, 0, 7, 0));
        due.is("all seven are heard", x.ears(1, 1, 0), 7);
        due.is("five are unlike", x.ears(1, 1, 1), 5);
        x.seed(Due.seedFor(1, 0, 2, 0, 1, 0, 7, 3));
        due.is("4, 4, 4, 5", x.ears(1, 1, 0), 4);
        due.is("two are unlike", x.ears(1, 1, 1), 2);
        due.is("of the one who speaks the least is as good", x.ears(0, 1, 0), 1);
        due.is("unlike", x.ears(0, 1, 1), 5);
        x.turns(0, 0);
        Due.words(x, 0, 6, 7, 8, 9);
        x.turns(0, 4);
        x.seed(Due.seedFor(1, 0, 2, 0, 1, 0, 11, 2));
        due.is("all nine are heard", x.ears(1, 1, 0), 9);
        due.is("3, 4 .. 9 are unlike", x.ears(1, 1, 1), 7);
        x.turns(1, 1);
        due.is("a child takes 2 more", x.ears(1, 1, 0), 7);
        due.is("and keeps 4 .. 9", x.ears(1, 1, 1), 6);
        due.is("its ear stays", x.told(1, 1), 1);
    }

    private static void ears() {
        due.promise(24, "EARS for n (1 .. 60) of a SPEAKER: what 0 EAR, 1 how many.");
        EchoFolk x = Due.plain(2);
        x.set(1, 1, 1);
        Due.words(x, 0, 1, 2);
        x.talk(100);
        x.seed(Due.seedFor(1, 0, 2, 0, 1, 0, 2, 0));
        due.is("one day", x.ears(1, 1, 0), 2);
        due.is("one day", x.ears(1, 1, 1), 2);
        int most = 0;
        for (int ear = 9; ear > 0; ear--) {
            x.set(1, 1, ear);
            most = Math.max(most, Integer.bitCount(x.behind(60, 4)));
        }
        due.is("sixty days", x.ears(1, 60, 1), most);
        EchoFolk none = Due.plain(1);
        due.is("nothing will be heard", none.ears(0, 60, 0), 1);
        due.is("nothing will be heard", none.ears(0, 60, 1), 0);
        Due.text(x, "keep e-3");
        due.is("its ear counts for what it keeps", x.ears(1, 1, 0), 5);
        due.promise(24, "BAD.");
        int[][] bad = {{2, 1, 0}, {-1, 1, 0}, {0, 0, 0}, {0, 61, 0}, {0, -1, 0}, {0, 1, 2}, {0, 1, -1}, {8, 1, 0},
            {MOST, 1, 0}, {LEAST, 1, 0}, {0, MOST, 0}, {0, LEAST, 0}, {0, 1, MOST}, {0, 1, LEAST}};
        for (int[] b : bad) due.is("ears", x.ears(b[0], b[1], b[2]), BAD);
    }

    private static void fee() {
        due.promise(25, "What fee gives.");
        EchoFolk x = Due.plain(2);
        due.is("without a text", x.fee(), 0);
        Due.words(x, 0, 1, 2, 3);
        x.says(0, 1, 0);
        x.says(0, 1, 0);
        x.forgets(0);
        due.is("without a text", x.fee(), 2);
        Due.text(x, "fee s*10+l");
        due.is("fee s*10+l", x.fee(), 23);
        Due.text(x, "keep 5");
        Due.text(x, "fine 6");
        due.is("texts of other keys", x.fee(), 23);
        x.forgets(1);
        due.is("as it is now", x.fee(), 29);
        Due.text(x, "fee l-s-9999");
        due.is("the last one told, below 0", x.fee(), -9992);
    }

    private static void fine() {
        due.promise(26, "What fine gives for a SPEAKER.");
        EchoFolk x = Due.plain(2);
        x.set(0, 2, 7);
        x.set(1, 2, 8);
        Due.words(x, 0, 1, 2, 3);
        x.says(0, 1, 0);
        due.is("without a text", x.fine(0), 3);
        due.is("without a text", x.fine(1), 0);
        Due.text(x, "fine s*100+f");
        due.is("fine s*100+f", x.fine(0), 307);
        due.is("fine s*100+f", x.fine(1), 8);
        Due.text(x, "fee 6");
        due.is("texts of other keys", x.fine(1), 8);
        due.promise(26, "BAD.");
        int[] bad = {2, -1, 8, MOST, LEAST};
        for (int b : bad) due.is("fine", x.fine(b), BAD);
        due.is("without a text", new EchoFolk().fine(0), BAD);
    }
}
