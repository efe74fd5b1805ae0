/** Promises 20 to 26. */
public final class FutureTest {
    private static final int BAD = -1000000001, NONE = -1000000005;
    private static final Due due = new Due("FutureTest");

    public static void main(String[] args) {
        behind();
        behindTheLastDay();
        spreads();
        spreadsLate();
        learns();
        quiet();
        ears();
        fee();
        fine();
        due.end();
    }

    /** On the first day 0 speaks 3 to 1, on the second 1 speaks its oldest word to 0, on the third 0 speaks 2, 3, 3 to 1. */
    private static EchoFolk twoWhoWillTalk(int ear) {
        EchoFolk x = new EchoFolk();
        x.speaker(0, 9, 0);
        x.speaker(0, ear, 0);
        Due.words(x, 0, 1, 2, 3);
        x.talk(100);
        x.seed(Due.seedFor(1, 0, 2, 0, 1, 0, 3, 2, 1, 0, 2, 1, 1, 0, 1, 0, 1, 0, 2, 0, 1, 0, 4, 1));
        return x;
    }

    private static void behind() {
        due.promise(20);
        EchoFolk x = twoWhoWillTalk(9);
        Due.text(x, "keep 3");
        int[][] by = {{0, 0, 3, 14, 0}, {1, 0, 4, 14, 8}, {2, 1, 4, 12, 8}};
        for (int n = 0; n < 3; n++) {
            for (int what = 0; what < 5; what++) due.is("behind", x.behind(n, what), by[n][what]);
        }
        due.is("nothing changed", x.count(1), 0);
        due.is("nothing changed", x.folk(0), 0);
        due.is("nothing changed", x.folk(1), 0);
        due.is("nothing changed", x.told(1, 4), 0);
        due.is("nothing changed", x.told(0, 3), 0);
        due.is("there are none", new EchoFolk().behind(1, 3), BAD);
        x.says(0, 1, 0);
        due.is("in all", x.behind(0, 0), 1);
        int[][] bad = {{-1, 0}, {101, 0}, {1, -1}, {1, 5}, {1, 11}, {1, Integer.MAX_VALUE}, {1, Integer.MIN_VALUE}};
        for (int[] b : bad) due.is("behind", x.behind(b[0], b[1]), BAD);
    }

    private static void behindTheLastDay() {
        due.promise(20);
        EchoFolk x = new EchoFolk();
        for (int i = 0; i < 100; i++) x.days(100);
        x.speaker(0, 9, 0);
        x.speaker(0, 9, 0);
        Due.words(x, 0, 1);
        Due.words(x, 1, 1);
        x.talk(100);
        due.is("there are no more days", x.days(100), 0);
        due.is("and yet", x.behind(100, 0), 100);
        due.is("the day", x.count(1), 9999);
    }

    private static void spreads() {
        due.promise(21);
        EchoFolk x = twoWhoWillTalk(9);
        due.is("the first day", x.spreads(3), 1);
        due.is("the third day", x.spreads(2), 3);
        due.is("nothing changed", x.count(1), 0);
        due.is("never", x.spreads(19), NONE);
        Due.words(x, 1, 18);
        due.is("0 has it not", x.spreads(18) == 0 ? 1 : 0, 0);
        x.talk(0);
        due.is("never", x.spreads(18), NONE);
        x.talk(100);
        x.turns(1, 5);
        due.is("but the deaf", x.spreads(1), 0);
        x.turns(0, 5);
        due.is("all are deaf", x.spreads(19), 0);
        due.is("spreads(20)", x.spreads(20), BAD);
        due.is("spreads(-1)", x.spreads(-1), BAD);
        due.is("nobody", new EchoFolk().spreads(0), 0);
    }

    private static void spreadsLate() {
        due.promise(21);
        for (int day = 200; day <= 201; day++) {
            EchoFolk x = new EchoFolk();
            x.speaker(0, 9, 0);
            x.speaker(2, 1, 0);
            Due.words(x, 0, 7);
            x.talk(1);
            x.seed(firstLessonOn(day));
            due.is("an elder of ear 1 takes none", x.spreads(7), NONE);
            x.turns(1, 0);
            due.is("the day is 200 at most", x.spreads(7), day == 200 ? 200 : NONE);
        }
    }

    /** A z with which, at talk 1, the first of two speakers speaks first on that day. */
    private static int firstLessonOn(int day) {
        for (int v = 0; ; v++) {
            int z = v;
            int quietDays = 0;
            while (true) {
                z = Due.afterDraws(z, 1);
                if ((z >>> 8) % 100 < 1) break;
                quietDays++;
            }
            if (quietDays == day - 1 && (Due.afterDraws(z, 1) >>> 8) % 2 == 0) return v;
        }
    }

    private static void learns() {
        due.promise(22);
        EchoFolk x = twoWhoWillTalk(9);
        due.is("the first day", x.learns(1, 1), 3);
        due.is("the second day", x.learns(1, 2), 3);
        due.is("the third day, the least", x.learns(1, 3), 2);
        due.is("0 learns nothing", x.learns(0, 3), NONE);
        Due.words(x, 1, 2, 3);
        due.is("it has it", x.learns(1, 1), NONE);
        int[][] bad = {{2, 1}, {-1, 1}, {0, 0}, {0, 101}, {0, -1}};
        for (int[] b : bad) due.is("learns", x.learns(b[0], b[1]), BAD);
        due.is("nothing changed", x.count(1), 0);
        x.forgets(0);
        x.forgets(1);
        Due.words(x, 0, 7, 19, 0);
        due.is("word 0", x.learns(1, 1), 0);
    }

    private static void quiet() {
        due.promise(23);
        due.is("there are none", new EchoFolk().quiet(1, 0), NONE);
        due.is("there are none", new EchoFolk().quiet(1, 1), NONE);
        EchoFolk x = new EchoFolk();
        for (int i = 0; i < 3; i++) x.speaker(0, 9, 0);
        Due.words(x, 0, 1);
        Due.words(x, 1, 1);
        Due.words(x, 2, 1);
        x.talk(100);
        x.says(0, 1, 0);
        x.seed(Due.seedFor(1, 0, 3, 1, 2, 0));
        due.is("1 would speak", x.quiet(1, 0), 1);
        due.is("spoken", x.quiet(1, 1), 1);
        due.is("nothing changed", x.told(1, 4), 2);
        due.is("nothing is lost", x.folk(1), 0);
        x.talk(0);
        due.is("of several the least", x.quiet(100, 0), 0);
        due.is("spoken", x.quiet(100, 1), 1);
        int[][] bad = {{0, 0}, {101, 0}, {1, 2}, {1, -1}};
        for (int[] b : bad) due.is("quiet", x.quiet(b[0], b[1]), BAD);
        due.is("bad stands first", new EchoFolk().quiet(0, 0), BAD);
    }

    private static void ears() {
        due.promise(24);
        EchoFolk x = new EchoFolk();
        x.speaker(4, 9, 0);
        x.speaker(0, 1, 0);
        Due.words(x, 0, 1, 2, 3, 4, 4, 4, 5);
        x.talk(100);
        x.seed(Due.seedFor(1, 0, 2, 0, 1, 0, 7, 0));
        due.is("all seven", x.ears(1, 1, 0), 7);
        due.is("of them unlike", x.ears(1, 1, 1), 5);
        due.is("nothing changed", x.told(1, 1), 1);
        x.seed(Due.seedFor(1, 0, 2, 0, 1, 0, 7, 3));
        due.is("4, 4, 4, 5", x.ears(1, 1, 0), 4);
        due.is("of them unlike", x.ears(1, 1, 1), 2);
        due.is("of the one who speaks any is as good", x.ears(0, 1, 0), 1);
        due.is("unlike", x.ears(0, 1, 1), 5);
        int[][] bad = {{2, 1, 0}, {-1, 1, 0}, {0, 0, 0}, {0, 61, 0}, {0, 1, 2}, {0, 1, -1}};
        for (int[] b : bad) due.is("ears", x.ears(b[0], b[1], b[2]), BAD);
        due.is("sixty", x.ears(1, 60, 1) > 0 ? 1 : 0, 1);
        Due.words(x, 0, 6, 7);
        x.forgets(0);
        Due.words(x, 0, 1, 2, 3, 4, 5, 6, 7, 8, 9);
        x.seed(Due.seedFor(1, 0, 2, 0, 1, 0, 9, 0));
        due.is("all nine", x.ears(1, 1, 0), 9);
        due.is("of them unlike", x.ears(1, 1, 1), 9);
    }

    private static void fee() {
        due.promise(25);
        EchoFolk x = new EchoFolk();
        x.speaker(0, 9, 0);
        x.speaker(0, 9, 0);
        Due.words(x, 0, 1, 2, 3);
        x.says(0, 1, 0);
        x.says(0, 1, 0);
        x.forgets(0);
        due.is("without a text", x.fee(), 2);
        Due.text(x, "fee s*10+l");
        due.is("fee s*10+l", x.fee(), 23);
        Due.text(x, "keep 5");
        due.is("another key", x.fee(), 23);
        Due.text(x, "fee l-s");
        due.is("the last one told", x.fee(), 1);
    }

    private static void fine() {
        due.promise(26);
        EchoFolk x = new EchoFolk();
        x.speaker(0, 9, 7);
        x.speaker(0, 9, 8);
        Due.words(x, 0, 1, 2, 3);
        x.says(0, 1, 0);
        due.is("without a text", x.fine(0), 3);
        due.is("without a text", x.fine(1), 0);
        Due.text(x, "fine s*100+f");
        due.is("fine s*100+f", x.fine(0), 307);
        due.is("fine s*100+f", x.fine(1), 8);
        due.is("fine(2)", x.fine(2), BAD);
        due.is("fine(-1)", x.fine(-1), BAD);
    }
}
