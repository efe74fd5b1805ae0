/** Rows that are checked, images, counts: the last sentences of term 5, and promises 41 to 45. */
public final class RowsTest {
    private static final int BAD = -1000000001, NO = -1000000002, FULL = -1000000003, NONE = -1000000005;
    private static final int MOST = Integer.MAX_VALUE, LEAST = Integer.MIN_VALUE;
    private static final Due due = new Due("RowsTest");

    public static void main(String[] args) {
        daysTold();
        tell();
        checkRight();
        checkWrong();
        checkRefused();
        checkAtTheEnd();
        imageKeeps();
        imageKeepsNot();
        imagesAndTexts();
        keep();
        back();
        count();
        due.end();
    }

    private static int check(EchoFolk x, int n, int... numbers) {
        for (int number : numbers) x.tell(number);
        int answer = x.check(n);
        due.is("none wait then", x.count(4), 0);
        return answer;
    }

    /** They have spoken once; on the first day 0 speaks 3 to 1, on the second 2 has no words, on the third 1 speaks 3, 3 to 0. */
    private static EchoFolk twoWhoWillTalk() {
        EchoFolk x = new EchoFolk();
        x.speaker(0, 9, 0);
        x.speaker(0, 9, 0);
        Due.words(x, 0, 1, 2, 3);
        x.says(0, 1, 2);
        x.speaker(5, 9, 0);
        x.talk(100);
        x.seed(Due.seedFor(1, 0, 3, 0, 2, 0, 3, 2, 1, 0, 3, 2, 2, 0, 1, 0, 3, 1, 2, 0, 2, 0));
        return x;
    }

    private static void daysTold() {
        due.term(5, "THE DAYS TOLD: of n DAYS, one behind the other, by THE IMAGE: SPOKEN; how many WORDS all have, together, behind each.");
        EchoFolk x = twoWhoWillTalk();
        x.keep();
        due.is("one day", check(x, 1, 2, 5), 0);
        due.is("two days", check(x, 2, 2, 5, 2, 5), 0);
        due.is("three days", check(x, 3, 2, 5, 2, 5, 3, 7), 0);
        x.forgets(0);
        x.seed(5);
        x.talk(0);
        x.speaker(0, 9, 9);
        Due.text(x, "keep 0");
        x.days(1);
        due.is("by the image, its texts too", check(x, 3, 2, 5, 2, 5, 3, 7), 0);
        due.is("nothing changed", x.count(6), Due.afterDraws(5, 1));
        Due.text(x, "keep 3");
        x.back();
        Due.text(x, "keep 3");
        x.keep();
        due.is("by the image's texts", check(x, 3, 2, 5, 2, 5, 3, 5), 0);
    }

    private static void tell() {
        due.promise(41, "One more number waits: how many.");
        EchoFolk x = new EchoFolk();
        int[] numbers = {0, MOST, LEAST, BAD, -1};
        for (int i = 0; i < 60; i++) due.is("tell", x.tell(numbers[i % 5]), i + 1);
        due.promise(41, "FULL: 60 wait.");
        due.is("a sixty-first", x.tell(0), FULL);
        due.is("again", x.tell(MOST), FULL);
        due.is("count(4)", x.count(4), 60);
        x.check(1);
        due.is("none wait then", x.tell(7), 1);
    }

    private static void checkRight() {
        due.promise(42, "The numbers that wait (none do then, whatever is answered) are THE DAYS TOLD of n (1 .. 30;");
        EchoFolk x = twoWhoWillTalk();
        x.talk(0);
        x.keep();
        int[] right = new int[60];
        for (int i = 0; i < 60; i++) right[i] = i % 2 == 0 ? 1 : 4;
        due.is("thirty days", check(x, 30, right), 0);
        due.is("one day", check(x, 1, 1, 4), 0);
        right[59] = 3;
        due.is("the last is not", check(x, 30, right), 60);
        right[59] = 4;
        due.is("one day more", check(x, 31, right), BAD);
        due.is("one day less: one too many", check(x, 29, right), 59);
        due.promise(42, "two by two: 0;");
        EchoFolk y = twoWhoWillTalk();
        y.keep();
        due.is("spoken first, then how many words", check(y, 1, 2, 5), 0);
        due.is("not the other way", check(y, 1, 5, 2), 1);
        due.is("day by day", check(y, 3, 2, 5, 2, 5, 3, 7), 0);
        due.is("not all of one first", check(y, 3, 2, 2, 3, 5, 5, 7), 2);
    }

    private static void checkWrong() {
        due.promise(42, "else 1 and how many stand right ahead of the first that is not (or is missing, or one too many).");
        EchoFolk x = twoWhoWillTalk();
        x.keep();
        due.is("the first is not", check(x, 3, 1, 5, 2, 5, 3, 7), 1);
        due.is("the second is not", check(x, 3, 2, 4, 2, 5, 3, 7), 2);
        due.is("the third is not", check(x, 3, 2, 5, 3, 5, 3, 7), 3);
        due.is("the last is not", check(x, 3, 2, 5, 2, 5, 3, 8), 6);
        due.is("the second and the last are not", check(x, 3, 2, 6, 2, 5, 3, 8), 2);
        due.is("the last is missing", check(x, 3, 2, 5, 2, 5, 3), 6);
        due.is("the last two are missing", check(x, 3, 2, 5, 2, 5), 5);
        due.is("all are missing", check(x, 3), 1);
        due.is("the first is not, and one is missing", check(x, 1, 3), 1);
        due.is("one too many", check(x, 3, 2, 5, 2, 5, 3, 7, 3), 7);
        due.is("two too many", check(x, 1, 2, 5, 2, 5), 3);
        due.is("one is not, and one too many", check(x, 1, 2, 4, 2), 2);
    }

    private static void checkRefused() {
        due.promise(42, "BAD; NO: there is no IMAGE.");
        EchoFolk x = twoWhoWillTalk();
        due.is("no image", check(x, 1, 2, 5), NO);
        due.is("no image", check(x, 30), NO);
        int[] bad = {0, -1, 31, MOST, LEAST};
        for (int n : bad) due.is("bad stands ahead of no", check(x, n, 2, 5), BAD);
        x.keep();
        for (int n : bad) due.is("bad", check(x, n, 2, 5), BAD);
        due.is("there is one", check(x, 1, 2, 5), 0);
        due.is("the day", x.count(1), 0);
        due.is("spoken", x.folk(0), 1);
    }

    private static void checkAtTheEnd() {
        due.promise(42, "fewer, if THE DAY would be above 9999)");
        EchoFolk x = new EchoFolk();
        for (int i = 0; i < 99; i++) x.days(100);
        x.days(97);
        x.keep();
        due.is("two days are left", check(x, 30, 0, 0, 0, 0), 0);
        due.is("two days are left", check(x, 2, 0, 0, 0, 0), 0);
        due.is("one too many", check(x, 30, 0, 0, 0, 0, 0), 5);
        due.is("one is missing", check(x, 30, 0, 0, 0), 4);
        due.is("one of them", check(x, 1, 0, 0), 0);
        x.days(2);
        due.is("the image's day counts", check(x, 30, 0, 0, 0, 0), 0);
        x.keep();
        due.is("none is left", check(x, 30), 0);
        due.is("one too many", check(x, 1, 0), 1);
        due.is("bad, though none is left", check(x, 31), BAD);
    }

    private static void imageKeeps() {
        due.term(5, "all can become as it is (again and again).");
        EchoFolk x = new EchoFolk();
        x.speaker(3, 4, 5);
        x.speaker(0, 9, 0);
        Due.words(x, 0, 1, 2, 3);
        x.says(0, 1, 0);
        x.forgets(1);
        x.talk(0);
        x.days(3);
        x.talk(33);
        x.seed(99);
        x.keep();
        for (int round = 0; round < 3; round++) {
            x.turns(0, 4);
            x.set(0, 1, 1);
            x.set(0, 2, 9);
            Due.words(x, 0, 4, 5, 6);
            x.says(0, 1, 0);
            x.forgets(1);
            x.speaker(0, 5, 5);
            due.is("a new one has said nothing", x.told(2, 3), 0);
            due.is("a new one has heard nothing", x.told(2, 4), 0);
            Due.words(x, 2, 17, 18);
            x.says(2, 1, 0);
            x.talk(44);
            x.days(7);
            due.is("back()", x.back(), 2);
            int[] told = {3, 4, 5, 3, 3, 14};
            for (int i = 0; i < told.length; i++) due.is("told", x.told(0, i), told[i]);
            for (int i = 0; i < 3; i++) due.is("heard", x.heard(0, i), 1 + i);
            int[] counts = {2, 3, 33, 0, 0, 0, 99};
            for (int i = 0; i < counts.length; i++) due.is("count", x.count(i), counts[i]);
            int[] folk = {1, 3, 3, 14, 0};
            for (int i = 0; i < folk.length; i++) due.is("folk", x.folk(i), folk[i]);
            due.is("there is no third", x.told(2, 0), BAD);
        }
    }

    private static void imageKeepsNot() {
        due.term(5, "AN IMAGE keeps all but SHEETS, SLOTS, numbers that wait, THE TAPE;");
        EchoFolk x = new EchoFolk();
        x.speaker(0, 9, 7);
        x.sheet(1, 0, 1);
        x.lay(1, 3, 40);
        x.tell(1);
        x.feed(1, 2, 3);
        due.is("keep()", x.keep(), 1);
        due.is("they stay by keep", x.count(4), 1);
        due.is("they stay by keep", x.count(5), 12);
        due.is("they stay by keep", x.rest(1, 100), 40);
        due.is("they stay by keep", x.mark(1, 0, 1), 1);
        x.set(0, 2, 8);
        x.sheet(0, 0, 4);
        x.sheet(1, -1, 0);
        x.lay(0, 1, 0);
        x.lay(1, 3, 50);
        x.tell(1);
        x.trim(0);
        Due.feed(x, "fee 77");
        due.is("back()", x.back(), 1);
        due.is("a sheet", x.mark(0, 3, 1), 1);
        due.is("a sheet that is missing", x.mark(1, 0, 1), -1000000011);
        due.is("a speaker in a slot", x.ask(0, 0), 8);
        due.is("a number in a slot", x.rest(1, 100), 50);
        due.is("numbers that wait", x.count(4), 2);
        due.is("the tape", x.count(5), 6);
        due.is("the tape", x.text(), 0);
        due.is("the tape", x.fee(), 77);
    }

    private static void imagesAndTexts() {
        due.term(5, "AN IMAGE keeps all");
        EchoFolk x = new EchoFolk();
        Due.text(x, "fee 5");
        x.keep();
        for (int round = 0; round < 3; round++) {
            due.is("text()", Due.text(x, "fee 6"), 1);
            due.is("text()", Due.text(x, "fine 7"), 2);
            due.is("fee()", x.fee(), 6);
            x.back();
            due.is("count(3)", x.count(3), 1);
            due.is("fee()", x.fee(), 5);
            due.is("why(1)", x.why(1), 0);
            due.is("why(2)", x.why(2), NONE);
            due.is("textTold(1, 0)", x.textTold(1, 0), BAD);
        }
        due.is("another one", Due.text(x, "fine s"), 1);
        x.keep();
        for (int i = 2; i < 14; i++) due.is("text()", Due.text(x, "fine 9"), i);
        due.is("full", Due.text(x, "fine 9"), FULL);
        x.back();
        due.is("why(2)", x.why(2), 1);
        due.is("its key", x.textTold(1, 0), 2);
        due.is("there is room again", Due.text(x, "fee 8"), 2);
    }

    private static void keep() {
        due.promise(43, "AN IMAGE is kept: how many SPEAKERS.");
        EchoFolk x = new EchoFolk();
        due.is("none", x.keep(), 0);
        x.deal(8);
        due.is("it is kept", x.back(), 0);
        due.is("it is kept", x.count(0), 0);
        x.deal(8);
        due.is("eight", x.keep(), 8);
        x.forgets(0);
        due.is("the one that was kept last", x.back(), 8);
        x.seed(5);
        x.keep();
        x.seed(6);
        due.is("nothing else changes", x.count(6), 6);
        x.back();
        due.is("the one that was kept last", x.count(6), 5);
    }

    private static void back() {
        due.promise(44, "All is as THE IMAGE: how many SPEAKERS.");
        EchoFolk x = new EchoFolk();
        x.speaker(1, 2, 3);
        x.keep();
        due.is("nothing has changed", x.back(), 1);
        x.deal(7);
        due.is("one", x.back(), 1);
        due.is("one", x.count(0), 1);
        due.is("it is a child", x.told(0, 0), 1);
        due.promise(44, "NO: there is none.");
        EchoFolk y = new EchoFolk();
        y.speaker(1, 2, 3);
        due.is("there is none", y.back(), NO);
        due.is("it stays", y.count(0), 1);
        y.keep();
        due.is("there is one", y.back(), 1);
    }

    private static void count() {
        due.promise(45, "0 how many SPEAKERS, 1 THE DAY, 2 TALK, 3 TEXTS, 4 numbers that wait, 5 bytes of THE TAPE, 6 z.");
        EchoFolk x = new EchoFolk();
        Due.text(x, "fee 5");
        x.speaker(0, 1, 1);
        x.speaker(0, 1, 1);
        x.talk(0);
        x.days(4);
        x.talk(7);
        x.tell(3);
        x.tell(3);
        x.tell(3);
        x.feed(0, 0, 0);
        int[] counts = {2, 4, 7, 1, 3, 12, Due.afterDraws(1, 4)};
        for (int i = 0; i < counts.length; i++) due.is("count(" + i + ")", x.count(i), counts[i]);
        due.promise(45, "BAD.");
        int[] bad = {7, -1, MOST, LEAST};
        for (int b : bad) due.is("count", x.count(b), BAD);
    }
}
