/** Promises 1 to 13. */
public final class SpeakersTest {
    private static final int BAD = -1000000001, FULL = -1000000003, NONE = -1000000005, KIND = -1000000012;
    private static final int MOST = Integer.MAX_VALUE, LEAST = Integer.MIN_VALUE;
    private static final Due due = new Due("SpeakersTest");

    public static void main(String[] args) {
        aNewObject();
        speaker();
        told();
        heard();
        as();
        turns();
        set();
        speaks();
        keepsToldAnew();
        says();
        forgets();
        talk();
        deal();
        seed();
        due.end();
    }

    private static void aNewObject() {
        due.promise(1);
        EchoFolk x = new EchoFolk();
        int[] counts = {0, 0, 50, 0, 0, 0, 1};
        for (int i = 0; i < counts.length; i++) due.is("count", x.count(i), counts[i]);
        for (int i = 0; i < 5; i++) due.is("folk", x.folk(i), 0);
        for (int i = 0; i < 4; i++) due.is("who", x.who(i), -1000000011);
        for (int i = 0; i < 5; i++) due.is("rest", x.rest(i, 1), -1000000011);
        for (int i = 0; i < 3; i++) due.is("why", x.why(i), NONE);
        due.is("told(0, 0)", x.told(0, 0), BAD);
        due.is("back()", x.back(), -1000000002);
        due.is("fee()", x.fee(), 0);
    }

    private static void speaker() {
        due.promise(2);
        EchoFolk x = new EchoFolk();
        int[][] bad = {{-1, 1, 0}, {6, 1, 0}, {0, 0, 0}, {0, 10, 0}, {0, 1, -1}, {0, 1, 100}, {MOST, 1, 0}, {0, LEAST, 0}, {0, 1, MOST}};
        for (int[] b : bad) due.is("speaker", x.speaker(b[0], b[1], b[2]), BAD);
        due.is("count(0)", x.count(0), 0);
        for (int i = 0; i < 8; i++) due.is("speaker", x.speaker(i % 6, 1 + i, 99 - i), i);
        due.is("a ninth", x.speaker(0, 1, 0), FULL);
        due.is("a bad ninth", x.speaker(0, 0, 0), BAD);
        due.is("count(0)", x.count(0), 8);
        for (int i = 0; i < 8; i++) {
            due.is("kind", x.told(i, 0), i % 6);
            due.is("ear", x.told(i, 1), 1 + i);
            due.is("fame", x.told(i, 2), 99 - i);
            due.is("said", x.told(i, 3), 0);
            due.is("heard", x.told(i, 4), 0);
        }
    }

    private static void told() {
        due.promise(3);
        EchoFolk x = new EchoFolk();
        int[] keeps = {12, 6, 10, 9, 10, 0};
        int[] takes = {5, 7, 2, 7, 3, 0};
        int[] goes = {3, 2, 4, 4, 9, 3};
        int[] worth = {40, 46, 59, 92, 51, 1};
        for (int kind = 0; kind < 6; kind++) {
            x.speaker(kind, 5, 40);
            due.is("keeps", x.told(kind, 6), keeps[kind]);
            due.is("takes", x.told(kind, 7), takes[kind]);
            due.is("goes", x.told(kind, 8), goes[kind]);
            due.is("worth", x.told(kind, 9), worth[kind]);
        }
        x.speaks(0, 19, 0, 19);
        due.is("how many", x.told(0, 4), 3);
        due.is("as a set", x.told(0, 5), Due.set(0, 19));
        due.is("told(0, -1)", x.told(0, -1), BAD);
        due.is("told(0, 10)", x.told(0, 10), BAD);
        due.is("told(-1, 0)", x.told(-1, 0), BAD);
        due.is("told(6, 0)", x.told(6, 0), BAD);
        due.is("a liar of fame 99", liarOfFame99(), -8);
        keepsByText("keep 7", 7, 3, 5, 6, 5);
        keepsByText("keep 0-5", 0, 0, 0, 3, 0);
        keepsByText("keep 1", 1, 0, 0, 3, 0);
        keepsByText("keep 9999", 12, 6, 10, 9, 10);
        keepsByText("keep e+f", 9, 4, 7, 7, 7);
    }

    private static int liarOfFame99() {
        EchoFolk x = new EchoFolk();
        x.speaker(4, 1, 99);
        return x.told(0, 9);
    }

    private static void keepsByText(String text, int... keeps) {
        EchoFolk x = new EchoFolk();
        due.is(text, Due.text(x, text), 0);
        for (int kind = 0; kind < 5; kind++) {
            x.speaker(kind, 5, 4);
            due.is(text, x.told(kind, 6), keeps[kind]);
        }
        x.speaker(5, 5, 4);
        due.is(text, x.told(5, 6), 0);
    }

    private static void heard() {
        due.promise(4);
        EchoFolk x = new EchoFolk();
        x.speaker(0, 9, 0);
        for (int i = 0; i < 12; i++) due.is("heard", x.heard(0, i), NONE);
        Due.words(x, 0, 5, 6, 7, 8, 9, 10, 11, 12, 13, 14, 15, 16);
        for (int i = 0; i < 12; i++) due.is("heard", x.heard(0, i), 5 + i);
        x.speaks(0, 1, 2, -1);
        due.is("the oldest", x.heard(0, 0), 7);
        due.is("the newest", x.heard(0, 11), 2);
        due.is("heard(0, 12)", x.heard(0, 12), BAD);
        due.is("heard(0, -1)", x.heard(0, -1), BAD);
        due.is("heard(1, 0)", x.heard(1, 0), BAD);
        due.is("heard(-1, 0)", x.heard(-1, 0), BAD);
    }

    private static void as() {
        due.promise(5);
        EchoFolk x = new EchoFolk();
        boolean[][] of = {
            {true, false, false, false, false, false},
            {true, true, false, false, false, false},
            {true, false, true, false, false, false},
            {true, true, false, true, false, false},
            {true, false, true, false, true, false},
            {true, false, false, false, false, true}};
        for (int kind = 0; kind < 6; kind++) {
            x.speaker(kind, 1, 10 + kind);
            for (int k = 0; k < 6; k++) due.is("as", x.as(kind, k), of[kind][k] ? 10 + kind : KIND);
        }
        due.is("as(6, 0)", x.as(6, 0), BAD);
        due.is("as(-1, 0)", x.as(-1, 0), BAD);
        due.is("as(0, 6)", x.as(0, 6), BAD);
        due.is("as(0, -1)", x.as(0, -1), BAD);
    }

    private static void turns() {
        due.promise(6);
        EchoFolk x = new EchoFolk();
        x.speaker(0, 4, 30);
        Due.words(x, 0, 1, 2, 3);
        due.is("turns(0, 4)", x.turns(0, 4), 0);
        due.is("turns(0, 5)", x.turns(0, 5), 4);
        due.is("kind", x.told(0, 0), 5);
        due.is("what it has stays", x.told(0, 4), 3);
        due.is("turns(0, 6)", x.turns(0, 6), BAD);
        due.is("turns(0, -1)", x.turns(0, -1), BAD);
        due.is("turns(1, 0)", x.turns(1, 0), BAD);
        due.is("turns(-1, 0)", x.turns(-1, 0), BAD);
        due.is("it hears nothing, and forgets all", x.speaks(0, -1, -1, -1), 0);
        due.is("lost", x.folk(1), 3);
    }

    private static void set() {
        due.promise(7);
        EchoFolk x = new EchoFolk();
        x.speaker(0, 4, 30);
        due.is("set(0, 1, 9)", x.set(0, 1, 9), 4);
        due.is("set(0, 1, 1)", x.set(0, 1, 1), 9);
        due.is("set(0, 2, 99)", x.set(0, 2, 99), 30);
        due.is("set(0, 2, 0)", x.set(0, 2, 0), 99);
        int[][] bad = {{0, 1, 0}, {0, 1, 10}, {0, 2, -1}, {0, 2, 100}, {0, 0, 1}, {0, 3, 1}, {1, 1, 1}, {-1, 1, 1}};
        for (int[] b : bad) due.is("set", x.set(b[0], b[1], b[2]), BAD);
        due.is("ear", x.told(0, 1), 1);
        due.is("fame", x.told(0, 2), 0);
    }

    private static void speaks() {
        due.promise(8);
        EchoFolk x = new EchoFolk();
        x.speaker(0, 2, 0);
        x.speaker(1, 1, 0);
        x.speaker(2, 1, 0);
        x.speaker(2, 5, 0);
        x.speaker(4, 1, 0);
        x.speaker(5, 9, 0);
        int[] taken = {2, 3, 0, 2, 1, 0};
        for (int i = 0; i < 6; i++) due.is("speaks", x.speaks(i, 7, 8, 9), taken[i]);
        due.is("from the first on", x.heard(4, 0), 7);
        due.is("in order", x.heard(0, 1), 8);
        due.is("none between", x.speaks(1, -1, 0, 19), 5);
        due.is("in order", x.heard(1, 3), 0);
        due.is("in order", x.heard(1, 4), 19);
        due.is("a child keeps six", x.speaks(1, 4, 5, -1), 6);
        due.is("lost", x.folk(1), 1);
        due.is("the oldest is forgotten", x.heard(1, 0), 8);
        due.is("nobody has spoken", x.folk(0), 0);
        int[][] bad = {{0, 20, 0, 0}, {0, 0, 20, 0}, {0, 0, 0, 20}, {0, -2, 0, 0}, {0, 0, -2, 0}, {0, 0, 0, -2}, {6, 0, 0, 0}, {-1, 0, 0, 0}};
        for (int[] b : bad) due.is("speaks", x.speaks(b[0], b[1], b[2], b[3]), BAD);
        due.is("nothing changed", x.told(0, 4), 2);
    }

    private static void keepsToldAnew() {
        due.promise(8);
        EchoFolk x = new EchoFolk();
        x.speaker(0, 3, 0);
        Due.text(x, "keep 12-w");
        due.is("three", x.speaks(0, 1, 2, 3), 3);
        due.is("six", x.speaks(0, 4, 5, 6), 6);
        due.is("nine keep 3, eight 4, seven 5, six 6", x.speaks(0, 7, 8, 9), 6);
        due.is("lost", x.folk(1), 3);
        due.is("keeps", x.told(0, 6), 6);
        due.is("the oldest", x.heard(0, 0), 4);
    }

    private static void says() {
        due.promise(9);
        EchoFolk x = new EchoFolk();
        x.speaker(0, 9, 0);
        x.speaker(1, 9, 0);
        x.speaker(5, 9, 0);
        Due.words(x, 0, 1, 2, 3, 4, 5);
        due.is("as many as it goes", x.says(0, 1, 1), 3);
        due.is("heard", x.heard(1, 0), 2);
        due.is("heard", x.heard(1, 2), 4);
        due.is("fewer", x.says(0, 1, 4), 1);
        due.is("heard", x.heard(1, 3), 5);
        due.is("to the deaf", x.says(0, 2, 0), 3);
        due.is("who takes none", x.told(2, 4), 0);
        due.is("said", x.told(0, 3), 7);
        due.is("spoken", x.folk(0), 3);
        due.is("a child goes two", x.says(1, 0, 0), 2);
        due.is("says(0, 1, 5)", x.says(0, 1, 7), NONE);
        due.is("says(0, 1, 11)", x.says(0, 1, 11), NONE);
        int[][] bad = {{0, 0, 0}, {0, 3, 0}, {3, 0, 0}, {-1, 0, 0}, {0, -1, 0}, {0, 1, -1}, {0, 1, 12}};
        for (int[] b : bad) due.is("says", x.says(b[0], b[1], b[2]), BAD);
        due.is("spoken", x.folk(0), 4);
        liarSaysNine();
    }

    private static void liarSaysNine() {
        EchoFolk x = new EchoFolk();
        x.speaker(4, 9, 0);
        x.speaker(3, 9, 0);
        Due.words(x, 0, 1, 2, 3, 4, 5, 6, 7, 8, 9, 10);
        due.is("a liar goes nine", x.says(0, 1, 1), 9);
        due.is("a lover keeps nine", x.told(1, 4), 9);
        due.is("a liar goes nine", x.says(0, 1, 0), 9);
        due.is("nine are lost", x.folk(1), 9);
        due.is("the oldest", x.heard(1, 0), 1);
    }

    private static void forgets() {
        due.promise(10);
        EchoFolk x = new EchoFolk();
        x.speaker(0, 9, 0);
        x.speaker(0, 9, 0);
        Due.words(x, 0, 1, 2, 3, 4);
        Due.words(x, 1, 1);
        due.is("forgets(0)", x.forgets(0), 4);
        due.is("lost", x.folk(1), 4);
        due.is("forgets(0)", x.forgets(0), 0);
        due.is("told(0, 4)", x.told(0, 4), 0);
        due.is("the other one", x.told(1, 4), 1);
        due.is("forgets(2)", x.forgets(2), BAD);
        due.is("forgets(-1)", x.forgets(-1), BAD);
    }

    private static void talk() {
        due.promise(11);
        EchoFolk x = new EchoFolk();
        due.is("talk(0)", x.talk(0), 50);
        due.is("talk(100)", x.talk(100), 0);
        due.is("talk(101)", x.talk(101), BAD);
        due.is("talk(-1)", x.talk(-1), BAD);
        due.is("count(2)", x.count(2), 100);
    }

    private static void deal() {
        due.promise(12);
        EchoFolk x = new EchoFolk();
        int z = Due.seedFor(6, 3, 9, 8, 100, 42);
        x.seed(z);
        due.is("deal(1)", x.deal(1), 1);
        due.is("kind", x.told(0, 0), 3);
        due.is("ear", x.told(0, 1), 9);
        due.is("fame", x.told(0, 2), 42);
        due.is("three draws", x.count(6), Due.afterDraws(z, 3));
        due.is("deal(5)", x.deal(5), 5);
        due.is("deal(0)", x.deal(0), BAD);
        due.is("deal(9)", x.deal(9), BAD);
        due.is("deal(8)", x.deal(8), 2);
        due.is("no draws for others", x.count(6), Due.afterDraws(z, 24));
        due.is("no room", x.deal(1), 0);
        due.is("no draws", x.count(6), Due.afterDraws(z, 24));
    }

    private static void seed() {
        due.promise(13);
        EchoFolk x = new EchoFolk();
        due.is("seed(-7)", x.seed(-7), 1);
        due.is("seed(LEAST)", x.seed(LEAST), -7);
        due.is("seed(MOST)", x.seed(MOST), LEAST);
        due.is("count(6)", x.count(6), MOST);
        x.days(1);
        due.is("a draw", x.count(6), Due.afterDraws(MOST, 1));
    }
}
