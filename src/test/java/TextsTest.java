/** Promises 27 to 31. */
public final class TextsTest {
    private static final int BAD = -1000000001, FULL = -1000000003, NONE = -1000000005;
    private static final Due due = new Due("TextsTest");

    public static void main(String[] args) {
        feed();
        trim();
        text();
        values();
        faults();
        faultsOfWords();
        faultsOfDepth();
        fullTexts();
        textTold();
        why();
        due.end();
    }

    private static void feed() {
        due.promise(27);
        EchoFolk x = new EchoFolk();
        for (int i = 1; i <= 8; i++) due.is("feed", x.feed(0, -1, 7), 12 * i);
        due.is("a ninth time", x.feed(0, 0, 0), FULL);
        due.is("count(5)", x.count(5), 96);
        x.trim(85);
        due.is("97", x.feed(0, 0, 0), FULL);
        x.trim(84);
        due.is("96", x.feed(0, 0, 0), 96);
        x.trim(0);
        x.feed('f' << 24 | 'e' << 16 | 'e' << 8 | ' ', '1' << 24 | '2' << 16 | '3' << 8 | '4', '+' << 24 | '5' << 16 | ' ' << 8 | ' ');
        due.is("the highest first", x.text(), 0);
        due.is("fee()", x.fee(), 1239);
    }

    private static void trim() {
        due.promise(28);
        EchoFolk x = new EchoFolk();
        due.is("trim(0)", x.trim(0), 0);
        due.is("trim(1)", x.trim(1), BAD);
        x.feed(1, 2, 3);
        due.is("trim(13)", x.trim(13), BAD);
        due.is("trim(12)", x.trim(12), 12);
        due.is("trim(-1)", x.trim(-1), BAD);
        due.is("trim(5)", x.trim(5), 5);
        due.is("count(5)", x.count(5), 5);
        due.is("trim(6)", x.trim(6), BAD);
        due.is("feed", x.feed(1, 2, 3), 17);
    }

    private static void text() {
        due.promise(29);
        EchoFolk x = new EchoFolk();
        due.is("nothing", x.text(), -100);
        due.is("fee 1", Due.text(x, "fee 1"), 0);
        due.is("used up", x.count(5), 0);
        due.is("fee 1 1", Due.text(x, "fee 1 1"), -106);
        due.is("used up", x.count(5), 0);
        due.is("count(3)", x.count(3), 1);
        due.is("fine s", Due.text(x, "fine s"), 1);
        due.is("count(3)", x.count(3), 2);
        due.is("blanks", Due.text(x, "  keep   (  e)+f "), 2);
        due.is("no blanks", Due.text(x, "keep(e)+f"), 3);
        due.is("no blanks", Due.text(x, "keep!e"), 4);
        textsBehindFaults();
    }

    private static void textsBehindFaults() {
        EchoFolk x = new EchoFolk();
        StringBuilder faulty = new StringBuilder("fee 1");
        while (faulty.length() < 90) faulty.append("+1");
        faulty.append("+x");
        for (int i = 0; i < 3; i++) due.is("a fault", Due.text(x, faulty.toString()), -100 - faulty.length() + 1);
        due.is("fee 5*2", Due.text(x, "fee 5*2"), 0);
        due.is("fee()", x.fee(), 10);
        due.is("textTold(0, 1)", x.textTold(0, 1), 2);
    }

    private static void values() {
        due.promise(29);
        value("7", 7);
        value("0000", 0);
        value("0012", 12);
        value("1+2*3", 7);
        value("(1+2)*3", 9);
        value("9-4-3", 2);
        value("0-7/2", -3);
        value("(0-7)/2", -3);
        value("100/7/2", 7);
        value("7/0", 0);
        value("2*3/4*2", 2);
        value("1<2", 1);
        value("2<2", 0);
        value("2=2", 1);
        value("2=3", 0);
        value("3>2", 1);
        value("2>2", 0);
        value("1+1=2", 1);
        value("5&3", 1);
        value("5&0", 0);
        value("0|0", 0);
        value("0|9", 1);
        value("1|0&0", 1);
        value("1=1&2=2", 1);
        value("0&0|1", 1);
        value("!0", 1);
        value("!5", 0);
        value("!!5", 1);
        value("!0+5", 6);
        value("!(1=2)", 1);
        value("!0*5", 5);
        value("(1<2)<3", 1);
        value("(3>2)>1", 0);
        value("9999*9999*9999", 9999 * 9999 * 9999);
        value("9999*9999*99", 9999 * 9999 * 99);
        value("!!!!!!!!5", 1);
        value("((((((((5))))))))", 5);
        value("(1)+(2)*(3)-(4)", 3);
        value("!1+!1+!1+!1+!1+!1+!1+!1+!1+!1", 0);
        value("!(!(!(!(!(!(!(!(7))))))))", 1);
        value("s-l", 0);
    }

    private static void value(String text, int want) {
        EchoFolk x = new EchoFolk();
        due.is(text, Due.text(x, "fee " + text), 0);
        due.is(text, x.fee(), want);
    }

    private static void faults() {
        due.promise(29);
        fault("", 0);
        fault("   ", 3);
        fault("fe", 0);
        fault("fees", 0);
        fault("Fee 1", 0);
        fault(" why 1", 1);
        fault("1", 0);
        fault("(fee 1)", 0);
        fault("fee", 3);
        fault("fee  ", 5);
        fault("fee 1+", 6);
        fault("fee 1+  ", 8);
        fault("fee (1", 6);
        fault("fee ()", 5);
        fault("fee 1)", 5);
        fault("fee )", 4);
        fault("fee +1", 4);
        fault("fee -1", 4);
        fault("fee 1++1", 6);
        fault("fee 1 * / 1", 8);
        fault("fee 1<2<3", 7);
        fault("fee 1=2>3", 7);
        fault("fee 1<=2", 6);
        fault("fee 1<2&3<4<5", 11);
        fault("fee (1<2<3)", 8);
        fault("fee 1|", 6);
        fault("fee 1&&1", 6);
        fault("fee !", 5);
        fault("fee !)", 5);
        fault("fee 1!", 5);
        fault("fee 1!1", 5);
        fault("fee 1(2)", 5);
        fault("fee (1)(2)", 7);
        fault("fee (1)2", 7);
        fault("fee 1,", 5);
        fault("fee \t1", 4);
        fault("fee 1\0", 5);
        fault("fee \0", 4);
        fault("\0fee 1", 0);
        fault("bee 1", 0);
        fault("xeep 1", 0);
        fault("wine 1", 0);
        fault("fee 1\n", 5);
        fault("fee \u00e91", 4);
        fault("fee fee", 4);
        fault("fee 1 fee 2", 6);
        fault("fee (1+2", 8);
        fault("fee (1+2))", 9);
    }

    private static void faultsOfWords() {
        due.promise(29);
        fault("fee1", 3);
        fault("keep0+1", 4);
        fault("fee 1s", 5);
        fault("fee s1", 5);
        fault("fee ss", 4);
        fault("fee sl", 4);
        fault("fee S", 4);
        fault("fee sz", 4);
        fault("fee sa", 4);
        fault("fee s`", 5);
        fault("fee s{", 5);
        fault("fee 1:", 5);
        fault("fee 1/", 6);
        fault("fee 12345", 4);
        fault("fee 00001", 4);
        fault("fee 1+12345", 6);
        fault("fee e", 4);
        fault("fee f", 4);
        fault("fee w", 4);
        fault("fine l", 5);
        fault("fine e", 5);
        fault("fine w", 5);
        fault("keep s", 5);
        fault("keep l", 5);
        fault("fee s+x", 6);
        EchoFolk x = new EchoFolk();
        due.is("keep e+f+w", Due.text(x, "keep e+f+w"), 0);
        due.is("fee s+l", Due.text(x, "fee s+l"), 1);
        due.is("fine s+f", Due.text(x, "fine s+f"), 2);
    }

    private static void faultsOfDepth() {
        due.promise(29);
        fault("fee (((((((((5)))))))))", 12);
        fault("fee !!!!!!!!!5", 12);
        fault("fee 1+(((((((((", 14);
        fault("fee ((((((((", 12);
        fault("fee (((((((((", 12);
        fault("fee !(!(!(!(!(!(!(!(!1", 20);
        fault("fee !!!!!!!!(!1)", 13);
        EchoFolk x = new EchoFolk();
        due.is("each by itself", Due.text(x, "fee !(!(!(!(!(!(!(!(7))))))))"), 0);
        due.is("one behind the other", Due.text(x, "fee ((((((((1))))))))+((((((((2))))))))"), 1);
        due.is("one behind the other", Due.text(x, "fee !!!!!!!!1+!!!!!!!!1"), 2);
        due.is("one behind the other", Due.text(x, "fee !!!!!!!!(1)+(!!!!!!!!1)"), 3);
    }

    private static void fault(String text, int place) {
        EchoFolk x = new EchoFolk();
        due.is("'" + text + "'", Due.text(x, text), -100 - place);
        due.is("no text", x.count(3), 0);
        due.is("used up", x.count(5), 0);
        for (int key = 0; key < 3; key++) due.is("no text counts", x.why(key), NONE);
    }

    private static void fullTexts() {
        due.promise(29);
        EchoFolk x = new EchoFolk();
        for (int i = 0; i < 14; i++) due.is("text()", Due.text(x, "fee " + i), i);
        due.is("a fifteenth", Due.text(x, "fee 99"), FULL);
        due.is("used up", x.count(5), 0);
        due.is("a fault stands first", Due.text(x, "fee x"), -104);
        due.is("the last one counts", x.fee(), 13);
        due.is("count(3)", x.count(3), 14);
        StringBuilder longest = new StringBuilder("fee 1");
        while (longest.length() < 95) longest.append("+1");
        EchoFolk y = new EchoFolk();
        due.is("a long one", Due.text(y, longest.toString()), 0);
        due.is("its value", y.fee(), 46);
        due.is("its numbers", y.textTold(0, 1), 46);
        String deep = "fee 1|1&1<1+1*(1|1&1<1+1*(1|1&1<1+1*(1|1&1<1+1*(1|1&1<1+1*(1|1&1<1+1*(1|1&1<1+1))))))";
        due.is("a deep one", Due.text(y, deep), 1);
        due.is("its value", y.fee(), 1);
    }

    private static void textTold() {
        due.promise(30);
        EchoFolk x = new EchoFolk();
        due.is("textTold(0, 0)", x.textTold(0, 0), BAD);
        Due.text(x, "fine s+f*(12-s)");
        Due.text(x, "keep !e");
        Due.text(x, "fee 5");
        int[][] by = {{2, 4}, {0, 1}, {1, 1}};
        for (int text = 0; text < 3; text++) {
            for (int what = 0; what < 2; what++) due.is("textTold", x.textTold(text, what), by[text][what]);
        }
        int[][] bad = {{3, 0}, {-1, 0}, {0, 2}, {0, -1}, {14, 0}, {15, 0}};
        for (int[] b : bad) due.is("textTold", x.textTold(b[0], b[1]), BAD);
        Due.text(x, "fee 1 1");
        due.is("textTold(3, 0)", x.textTold(3, 0), BAD);
    }

    private static void why() {
        due.promise(31);
        EchoFolk x = new EchoFolk();
        for (int key = 0; key < 3; key++) due.is("why", x.why(key), NONE);
        Due.text(x, "fine s");
        Due.text(x, "keep e");
        Due.text(x, "fine f");
        due.is("why(0)", x.why(0), 1);
        due.is("why(1)", x.why(1), NONE);
        due.is("why(2)", x.why(2), 2);
        due.is("why(3)", x.why(3), BAD);
        due.is("why(-1)", x.why(-1), BAD);
    }
}
