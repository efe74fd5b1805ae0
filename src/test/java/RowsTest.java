/** Promises 41 to 45. */
public final class RowsTest {
    private static final int BAD = -1000000001, NO = -1000000002, FULL = -1000000003, NONE = -1000000005;
    private static final Due due = new Due("RowsTest");

    public static void main(String[] args) {
        tell();
        check();
        checkByTheImage();
        checkAtTheEnd();
        keepAndBack();
        imagesAndTexts();
        count();
        due.end();
    }

    private static void tell() {
        due.promise(41);
        EchoFolk x = new EchoFolk();
        for (int i = 1; i <= 60; i++) due.is("tell", x.tell(-i), i);
        due.is("a sixty-first", x.tell(0), FULL);
        due.is("count(4)", x.count(4), 60);
    }

    private static int check(EchoFolk x, int n, int... numbers) {
        for (int number : numbers) x.tell(number);
        int answer = x.check(n);
        due.is("none wait then", x.count(4), 0);
        return answer;
    }

    /** They have spoken once; on the first day 0 speaks 3 to 1, on the second 2 has no words, on the third 1 speaks 3, 3 to 0. */
    private static EchoFolk twoWhoWillTalk() {
        EchoFolk x = new EchoFolk();
        x.speaker(0, 9, 0);
        x.speaker(0, 9, 0);
        Due.words(x, 0, 1, 2, 3);
        x.says(0, 1, 2);
        x.speaker(5, 9, 0);
        x.talk(100);
        x.seed(Due.seedFor(1, 0, 3, 0, 2, 0, 3, 2, 1, 0, 3, 2, 2, 0, 1, 0, 3, 1, 2, 0, 2, 0));
        return x;
    }

    private static void check() {
        due.promise(42);
        EchoFolk x = twoWhoWillTalk();
        due.is("no image", check(x, 1, 1, 2), NO);
        due.is("bad stands first", check(x, 0, 1), BAD);
        x.keep();
        due.is("right", check(x, 3, 2, 5, 2, 5, 3, 7), 0);
        due.is("the image stays", check(x, 1, 2, 5), 0);
        due.is("the first is not", check(x, 3, 1, 5, 2, 5, 3, 7), 1);
        due.is("the second is not", check(x, 3, 2, 4, 2, 5, 3, 7), 2);
        due.is("the last is not", check(x, 3, 2, 5, 2, 5, 3, 8), 6);
        due.is("the last is missing", check(x, 3, 2, 5, 2, 5, 3), 6);
        due.is("the last two are missing", check(x, 3, 2, 5, 2, 5), 5);
        due.is("all are missing", check(x, 3), 1);
        due.is("one too many", check(x, 3, 2, 5, 2, 5, 3, 7, 0), 7);
        due.is("two too many", check(x, 1, 2, 5, 2, 5), 3);
        int[] bad = {0, -1, 31};
        for (int n : bad) due.is("check", check(x, n, 2, 5), BAD);
        due.is("nothing changed", x.count(1), 0);
        due.is("nothing changed", x.folk(0), 1);
        int[] right = new int[60];
        x.talk(0);
        x.keep();
        for (int i = 0; i < 60; i++) right[i] = i % 2 == 0 ? 1 : 4;
        due.is("thirty days", check(x, 30, right), 0);
        right[59] = 3;
        due.is("the last is not", check(x, 30, right), 60);
    }

    private static void checkByTheImage() {
        due.promise(42);
        EchoFolk x = twoWhoWillTalk();
        x.keep();
        x.forgets(0);
        x.seed(5);
        x.talk(0);
        x.speaker(0, 9, 9);
        Due.text(x, "keep 0");
        x.days(1);
        due.is("by the image, its texts too", check(x, 3, 2, 5, 2, 5, 3, 7), 0);
        due.is("nothing changed", x.count(6), Due.afterDraws(5, 1));
    }

    private static void checkAtTheEnd() {
        due.promise(42);
        EchoFolk x = new EchoFolk();
        for (int i = 0; i < 99; i++) x.days(100);
        x.days(98);
        x.keep();
        due.is("one day is left", check(x, 30, 0, 0), 0);
        due.is("one too many", check(x, 30, 0, 0, 0), 3);
        x.days(1);
        x.keep();
        due.is("none is left", check(x, 30), 0);
        due.is("one too many", check(x, 1, 0), 1);
    }

    private static void keepAndBack() {
        EchoFolk x = new EchoFolk();
        due.promise(44);
        due.is("there is none", x.back(), NO);
        x.speaker(3, 4, 5);
        x.speaker(0, 9, 0);
        Due.words(x, 0, 1, 2, 3);
        x.says(0, 1, 0);
        x.forgets(1);
        x.talk(0);
        x.days(3);
        x.talk(33);
        x.seed(99);
        due.promise(43);
        due.is("keep()", x.keep(), 2);
        due.promise(44);
        for (int round = 0; round < 2; round++) {
            x.turns(0, 4);
            x.set(0, 1, 1);
            x.set(0, 2, 9);
            Due.words(x, 0, 4, 5, 6);
            x.says(0, 1, 0);
            x.forgets(1);
            x.speaker(0, 5, 5);
            due.is("a new one has said nothing", x.told(2, 3), 0);
            due.is("a new one has heard nothing", x.told(2, 4), 0);
            Due.words(x, 2, 17, 18);
            x.says(2, 1, 0);
            x.talk(44);
            x.days(7);
            x.tell(1);
            x.feed(1, 2, 3);
            x.sheet(0, 0, 4 + round);
            x.lay(0, 3, 50 + round);
            due.is("back()", x.back(), 2);
            int[] told = {3, 4, 5, 3, 3, 14};
            for (int i = 0; i < told.length; i++) due.is("told", x.told(0, i), told[i]);
            for (int i = 0; i < 3; i++) due.is("heard", x.heard(0, i), 1 + i);
            int[] counts = {2, 3, 33, 0, 1 + round, 12 + 12 * round, 99};
            for (int i = 0; i < counts.length; i++) due.is("count", x.count(i), counts[i]);
            int[] folk = {1, 3, 3, 14, 0};
            for (int i = 0; i < folk.length; i++) due.is("folk", x.folk(i), folk[i]);
            due.is("told(2, 0)", x.told(2, 0), BAD);
            due.is("sheets stay", x.mark(0, 3 + round, 1), 1);
            due.is("slots stay", x.rest(0, 100), 50 + round);
        }
        due.promise(43);
        x.speaker(0, 1, 1);
        due.is("keep()", x.keep(), 3);
        x.forgets(0);
        due.is("back()", x.back(), 3);
        due.is("told(0, 4)", x.told(0, 4), 3);
        EchoFolk none = new EchoFolk();
        due.is("no speakers", none.keep(), 0);
        none.speaker(0, 1, 1);
        due.is("no speakers", none.back(), 0);
        due.is("no speakers", none.count(0), 0);
    }

    private static void imagesAndTexts() {
        due.promise(44);
        EchoFolk x = new EchoFolk();
        Due.text(x, "fee 5");
        x.keep();
        for (int round = 0; round < 3; round++) {
            due.is("text()", Due.text(x, "fee 6"), 1);
            due.is("text()", Due.text(x, "fine 7"), 2);
            due.is("fee()", x.fee(), 6);
            x.back();
            due.is("count(3)", x.count(3), 1);
            due.is("fee()", x.fee(), 5);
            due.is("why(1)", x.why(1), 0);
            due.is("why(2)", x.why(2), NONE);
            due.is("textTold(1, 0)", x.textTold(1, 0), BAD);
        }
        due.is("another one", Due.text(x, "fine s"), 1);
        x.keep();
        Due.text(x, "fine 9");
        x.back();
        due.is("why(2)", x.why(2), 1);
    }

    private static void count() {
        due.promise(45);
        EchoFolk x = new EchoFolk();
        Due.text(x, "fee 5");
        x.speaker(0, 1, 1);
        x.speaker(0, 1, 1);
        x.talk(0);
        x.days(4);
        x.talk(7);
        x.tell(3);
        x.tell(3);
        x.tell(3);
        x.feed(0, 0, 0);
        int[] counts = {2, 4, 7, 1, 3, 12, Due.afterDraws(1, 4)};
        for (int i = 0; i < counts.length; i++) due.is("count", x.count(i), counts[i]);
        due.is("count(7)", x.count(7), BAD);
        due.is("count(-1)", x.count(-1), BAD);
    }
}
