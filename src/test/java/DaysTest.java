/** Promises 14 and 15. */
public final class DaysTest {
    private static final int BAD = -1000000001;
    private static final Due due = new Due("DaysTest");

    public static void main(String[] args) {
        aDayWithALesson();
        theOtherOne();
        aDayWithoutWords();
        aDayWithoutTalk();
        aLonelyDay();
        manyDays();
        theLastDay();
        folk();
        due.end();
    }

    private static EchoFolk threeWithWords() {
        EchoFolk x = new EchoFolk();
        x.speaker(0, 9, 0);
        x.speaker(0, 2, 0);
        x.speaker(5, 9, 0);
        Due.words(x, 0, 1, 2, 3, 4, 5);
        Due.words(x, 1, 9, 8);
        return x;
    }

    private static void aDayWithALesson() {
        due.promise(14);
        EchoFolk x = threeWithWords();
        int z = Due.seedFor(100, 49, 3, 0, 2, 0, 5, 1);
        x.seed(z);
        due.is("days(1)", x.days(1), 1);
        due.is("four draws", x.count(6), Due.afterDraws(z, 4));
        due.is("said", x.told(0, 3), 3);
        due.is("the other one takes two", x.told(1, 4), 4);
        due.is("of the piece", x.heard(1, 2), 2);
        due.is("of the piece", x.heard(1, 3), 3);
        due.is("the day", x.count(1), 1);
        due.is("spoken", x.folk(0), 1);
    }

    private static void theOtherOne() {
        due.promise(14);
        for (int first = 0; first < 3; first++) {
            for (int rest = 0; rest < 2; rest++) {
                EchoFolk x = new EchoFolk();
                for (int i = 0; i < 3; i++) x.speaker(0, 9, 0);
                for (int i = 0; i < 3; i++) x.speaks(i, i, i, i);
                x.talk(100);
                x.seed(Due.seedFor(3, 0, 3, first, 2, rest, 3, 2));
                due.is("days(1)", x.days(1), 1);
                int other = rest >= first ? rest + 1 : rest;
                for (int i = 0; i < 3; i++) due.is("words", x.told(i, 4), i == other ? 4 : 3);
                due.is("the word", x.heard(other, 3), first);
                due.is("said", x.told(first, 3), 1);
            }
        }
    }

    private static void aDayWithoutWords() {
        due.promise(14);
        EchoFolk x = threeWithWords();
        int z = Due.seedFor(100, 0, 3, 2, 2, 0);
        x.seed(z);
        due.is("nothing to say", x.days(1), 0);
        due.is("three draws", x.count(6), Due.afterDraws(z, 3));
        due.is("the day", x.count(1), 1);
    }

    private static void aDayWithoutTalk() {
        due.promise(14);
        EchoFolk x = threeWithWords();
        int z = Due.seedFor(100, 50);
        x.seed(z);
        due.is("no talk", x.days(1), 0);
        due.is("one draw", x.count(6), Due.afterDraws(z, 1));
        due.is("the day", x.count(1), 1);
        x.talk(0);
        due.is("never", x.days(100), 0);
        due.is("a hundred draws", x.count(6), Due.afterDraws(z, 101));
    }

    private static void aLonelyDay() {
        due.promise(14);
        EchoFolk x = new EchoFolk();
        x.talk(100);
        x.days(2);
        x.speaker(0, 9, 0);
        Due.words(x, 0, 1, 2, 3);
        due.is("alone", x.days(3), 0);
        due.is("a draw a day", x.count(6), Due.afterDraws(1, 5));
        due.is("the day", x.count(1), 5);
    }

    private static void manyDays() {
        due.promise(14);
        EchoFolk x = new EchoFolk();
        x.speaker(0, 9, 0);
        x.speaker(0, 9, 0);
        Due.words(x, 0, 1, 2, 3);
        x.talk(100);
        x.seed(Due.seedFor(1, 0, 2, 0, 1, 0, 3, 2, 1, 0, 2, 1, 1, 0, 1, 0, 1, 0, 2, 0, 1, 0, 4, 1));
        due.is("one a day", x.days(3), 3);
        due.is("from 0 to 1: 3, then 2, 3, 3", x.told(1, 4), 4);
        due.is("heard", x.heard(1, 1), 2);
        due.is("from 1 to 0: 3", x.heard(0, 3), 3);
        x.talk(0);
        due.is("in these days alone", x.days(1), 0);
        int[] bad = {0, -1, 101, Integer.MAX_VALUE, Integer.MIN_VALUE};
        for (int n : bad) due.is("days", x.days(n), BAD);
        due.is("the day", x.count(1), 4);
    }

    private static void theLastDay() {
        due.promise(14);
        EchoFolk x = new EchoFolk();
        for (int i = 0; i < 99; i++) x.days(100);
        x.days(98);
        due.is("the day", x.count(1), 9998);
        due.is("no more than up to 9999", x.days(100), 0);
        due.is("the day", x.count(1), 9999);
        int z = x.count(6);
        due.is("as many draws as days", z, Due.afterDraws(1, 9999));
        due.is("days(1)", x.days(1), 0);
        due.is("the day", x.count(1), 9999);
        due.is("no draw", x.count(6), z);
    }

    private static void folk() {
        due.promise(15);
        EchoFolk x = threeWithWords();
        x.speaks(1, 1, 1, -1);
        due.is("together", x.folk(2), 9);
        due.is("somebody", x.folk(3), Due.set(1, 2, 3, 4, 5, 8, 9));
        due.is("all, and the deaf one has none", x.folk(4), 0);
        x.turns(2, 0);
        x.speaks(2, 2, 1, 9);
        due.is("all", x.folk(4), Due.set(1));
        for (int i = 0; i < 3; i++) x.speaks(i, 0, 19, -1);
        due.is("all", x.folk(4), Due.set(0, 1, 19));
        x.says(0, 1, 0);
        due.is("spoken", x.folk(0), 1);
        x.forgets(2);
        due.is("lost", x.folk(1), 5);
        due.is("folk(5)", x.folk(5), BAD);
        due.is("folk(-1)", x.folk(-1), BAD);
    }
}
