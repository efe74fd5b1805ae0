/** The tape and the texts: term 4, and promises 27 to 31. FaultsTest has where a text goes wrong. */
public final class TextsTest {
    private static final int BAD = -1000000001, FULL = -1000000003, NONE = -1000000005;
    private static final int MOST = Integer.MAX_VALUE, LEAST = Integer.MIN_VALUE;
    private static final Due due = new Due("TextsTest");

    public static void main(String[] args) {
        cut();
        fourteenAtMost();
        theTape();
        usedUp();
        keys();
        loosestFirst();
        pieces();
        namesOfKeep();
        namesOfFeeAndFine();
        wrapAround();
        toldLast();
        feed();
        trim();
        text();
        longTexts();
        textTold();
        why();
        due.end();
    }

    /** What fee gives by a text of its key. */
    private static void value(String text, int want) {
        EchoFolk x = new EchoFolk();
        due.is("fee " + text, Due.text(x, "fee " + text), 0);
        due.is("fee " + text, x.fee(), want);
    }

    private static void cut() {
        due.term(0, "All numbers are whole; / cuts towards 0.");
        value("7/2", 3);
        value("(0-7)/2", -3);
        value("7/(0-2)", -3);
        value("(0-7)/(0-2)", 3);
        value("1/2", 0);
        value("(0-1)/2", 0);
        value("6/2", 3);
        value("(0-6)/2", -3);
    }

    private static void fourteenAtMost() {
        due.term(4, "TEXTS, 14 at most, numbered from 0,");
        EchoFolk x = new EchoFolk();
        for (int i = 0; i < 14; i++) due.is("the next number", Due.text(x, "fee " + i), i);
        due.is("a fifteenth", Due.text(x, "fee 99"), FULL);
        due.is("count(3)", x.count(3), 14);
        due.is("the fourteenth counts", x.fee(), 13);
        due.is("the last one is told of", x.textTold(13, 0), 1);
        due.is("there is no fifteenth", x.textTold(14, 0), BAD);
    }

    private static void theTape() {
        due.term(4, "from THE TAPE (96 bytes at most;");
        EchoFolk x = new EchoFolk();
        for (int i = 0; i < 7; i++) x.feed(0, 0, 0);
        due.is("84 bytes", x.count(5), 84);
        x.trim(83);
        due.is("95", x.feed(0, 0, 0), 95);
        x.trim(84);
        due.is("96", x.feed(0, 0, 0), 96);
        x.trim(85);
        due.is("97", x.feed(0, 0, 0), FULL);
        due.is("it stays", x.count(5), 85);
    }

    private static void usedUp() {
        due.term(4, "an act that reads it uses it up, whatever it answers)");
        EchoFolk x = new EchoFolk();
        due.is("a text", Due.text(x, "fee 1"), 0);
        due.is("used up", x.count(5), 0);
        due.is("a fault", Due.text(x, "fee x"), -104);
        due.is("used up", x.count(5), 0);
        for (int i = 1; i < 14; i++) Due.text(x, "fee 1");
        due.is("full", Due.text(x, "fee 1"), FULL);
        due.is("used up", x.count(5), 0);
        due.is("a fault stands ahead of full", Due.text(x, "fee x"), -104);
        due.is("used up", x.count(5), 0);
        due.is("nothing is left to read", x.text(), -100);
        x.feed(1, 2, 3);
        due.is("other acts use nothing", x.keep(), 0);
        due.is("other acts use nothing", x.days(1), 0);
        due.is("it stays", x.count(5), 12);
    }

    private static void keys() {
        due.term(4, ": KEY E. KEY: keep | fee | fine.");
        String[] keys = {"keep", "fee", "fine"};
        for (int key = 0; key < 3; key++) {
            EchoFolk x = new EchoFolk();
            due.is(keys[key], Due.text(x, keys[key] + " 1"), 0);
            for (int k = 0; k < 3; k++) due.is("why(" + k + ")", x.why(k), k == key ? 0 : NONE);
            due.is("its key", x.textTold(0, 0), key);
            due.is("no e", Due.text(x, keys[key]), -100 - keys[key].length());
            due.is("no key", Due.text(x, "1"), -100);
            due.is("a longer word", Due.text(x, keys[key] + "s 1"), -100);
            due.is("a shorter word", Due.text(x, keys[key].substring(1) + " 1"), -100);
            for (int i = 0; i < keys[key].length(); i++) {
                due.is("another letter", Due.text(x, keys[key].substring(0, i) + "x" + keys[key].substring(i + 1) + " 1"), -100);
            }
            due.is("other letters", Due.text(x, keys[key].toUpperCase() + " 1"), -100);
        }
    }

    private static void loosestFirst() {
        due.term(4, "E, the loosest first: OR: AND { | AND }; AND: TEST { & TEST }; TEST: SUM [ (< | = | >) SUM ]; SUM: TERM { (+ | -) TERM }; TERM: PIECE { (* | /) PIECE };");
        value("1|0&0", 1);
        value("(1|0)&0", 0);
        value("0&0|1", 1);
        value("0|0|1|0", 1);
        value("1&1&0&1", 0);
        value("1&2=2", 1);
        value("2=2&1", 1);
        value("(2=1&1)", 0);
        value("2&1=1", 1);
        value("1+1=2", 1);
        value("2=1+1", 1);
        value("1+(1=2)", 1);
        value("1<2+1", 1);
        value("3-1>1", 1);
        value("1+2*3", 7);
        value("(1+2)*3", 9);
        value("2*3+1", 7);
        value("9-6/3", 7);
        value("9-4-3", 2);
        value("9-4+3", 8);
        value("100/7/2", 7);
        value("2*3/4*2", 2);
        value("7/2*2", 6);
        value("(1<2)<3", 1);
        value("1<(2<3)", 0);
        EchoFolk x = new EchoFolk();
        due.is("one sign in a test", Due.text(x, "fee 1<2"), 0);
        due.is("no two", Due.text(x, "fee 1<2<3"), -107);
        due.is("no two", Due.text(x, "fee 1=2>3"), -107);
        due.is("one in each", Due.text(x, "fee 1<2&2<3|3<4"), 1);
        due.is("no two in the last", Due.text(x, "fee 1<2&3<4<5"), -111);
    }

    private static void pieces() {
        due.term(4, "PIECE: NUMBER (1 to 4 digits) | NAME | ! PIECE | ( E ).");
        value("0", 0);
        value("9", 9);
        value("0000", 0);
        value("0012", 12);
        value("9999", 9999);
        value("s", 0);
        value("!0", 1);
        value("!5", 0);
        value("!!5", 1);
        value("!s", 1);
        value("!0+5", 6);
        value("!0*5", 5);
        value("!(1=2)", 1);
        value("(((7)))", 7);
        value("(1)+(2)*(3)-(4)", 3);
        EchoFolk x = new EchoFolk();
        due.is("no digit", Due.text(x, "fee "), -104);
        due.is("five digits", Due.text(x, "fee 10000"), -104);
        due.is("five digits", Due.text(x, "fee 00000"), -104);
        due.is("nothing in brackets", Due.text(x, "fee ()"), -105);
        due.is("nothing behind !", Due.text(x, "fee !"), -105);
        due.is("no sign ahead", Due.text(x, "fee -1"), -104);
    }

    private static void namesOfKeep() {
        due.term(4, "NAMES, each one letter: of keep e EAR, f FAME, w how many WORDS it has HEARD (as it has them then);");
        EchoFolk x = new EchoFolk();
        x.speaker(0, 3, 7);
        x.speaks(0, 1, 2, -1);
        String[] texts = {"keep e", "keep f", "keep w", "keep w*3+e-1"};
        int[] keeps = {3, 7, 2, 8};
        for (int i = 0; i < texts.length; i++) {
            due.is(texts[i], Due.text(x, texts[i]), i);
            due.is(texts[i], x.told(0, 6), keeps[i]);
        }
        x.speaks(0, 5, -1, -1);
        due.is("as it has them then", x.told(0, 6), 11);
        x.set(0, 1, 2);
        due.is("as it is then", x.told(0, 6), 10);
        String[] others = {"keep s", "keep l", "keep g", "keep ew", "keep E", "keep ee"};
        for (String other : others) due.is(other, Due.text(x, other), -105);
    }

    private static void namesOfFeeAndFine() {
        due.term(4, "of fee s SPOKEN, l LOST (what fee gives is told by fee(); without a TEXT: SPOKEN);");
        EchoFolk x = new EchoFolk();
        x.speaker(0, 9, 30);
        x.speaker(0, 9, 40);
        x.speaks(0, 1, 2, 3);
        x.says(0, 1, 0);
        x.says(0, 1, 0);
        x.forgets(0);
        due.is("without a text", x.fee(), 2);
        Due.text(x, "fee s*100+l");
        due.is("fee s*100+l", x.fee(), 203);
        String[] ofFee = {"fee e", "fee f", "fee w", "fee sl", "fee S", "fee t"};
        for (String other : ofFee) due.is(other, Due.text(x, other), -104);
        due.term(4, "of fine s SAID, f FAME (what fine gives for a SPEAKER is told by fine(); without a TEXT: SAID).");
        due.is("without a text", x.fine(0), 6);
        due.is("without a text", x.fine(1), 0);
        Due.text(x, "fine s*100+f");
        due.is("fine s*100+f", x.fine(0), 630);
        due.is("fine s*100+f", x.fine(1), 40);
        String[] ofFine = {"fine e", "fine l", "fine w", "fine sf", "fine F", "fine g"};
        for (String other : ofFine) due.is(other, Due.text(x, other), -105);
    }

    private static void wrapAround() {
        due.term(4, "Ints wrap; / is 0 by 0; tests, & | ! give 1 or 0 (what is not 0 is true; both sides are worked out).");
        String greatest = "2147*1000*1000+483*1000+647";
        String least = "0-2147*1000*1000-483*1000-648";
        value(greatest, MOST);
        value(greatest + "+1", LEAST);
        value(least, LEAST);
        value(least + "-1", MOST);
        value("0-(" + least + ")", LEAST);
        value("(" + least + ")/(0-1)", LEAST);
        value("(" + greatest + ")*2", -2);
        value("9999*9999*99", 1308085507);
        value("7/0", 0);
        value("0/0", 0);
        value("7/(3-3)+5", 5);
        value("1<2", 1);
        value("2<2", 0);
        value("3<2", 0);
        value("1=2", 0);
        value("2=2", 1);
        value("1>2", 0);
        value("2>2", 0);
        value("3>2", 1);
        value("0-1<0", 1);
        value(greatest + ">" + least, 1);
        int[][] both = {{0, 0, 0, 0}, {0, 7, 0, 1}, {7, 0, 0, 1}, {7, 8, 1, 1}};
        for (int[] b : both) {
            value(b[0] + "&" + b[1], b[2]);
            value(b[0] + "|" + b[1], b[3]);
        }
        value("(0-1)&(0-2)", 1);
        value("!(0-1)", 0);
        value("!0", 1);
        value("0&7/0", 0);
        value("1|7/0", 1);
    }

    private static void toldLast() {
        due.term(4, "Of a KEY that TEXT counts that was told last.");
        EchoFolk x = new EchoFolk();
        due.is("none", x.fee(), 0);
        for (int i = 0; i < 3; i++) {
            Due.text(x, "fee " + (30 - i));
            due.is("the last one", x.fee(), 30 - i);
            due.is("the last one", x.why(1), 2 * i);
            Due.text(x, "fine 1");
        }
        due.is("a fault", Due.text(x, "fee 1 1"), -106);
        due.is("it counts still", x.why(1), 4);
        due.is("it counts still", x.fee(), 28);
    }

    private static void feed() {
        due.promise(27, "Twelve bytes come to THE TAPE, the highest of each number first: how many it has.");
        EchoFolk x = new EchoFolk();
        for (int i = 1; i <= 8; i++) due.is("feed", x.feed(MOST, LEAST, -1), 12 * i);
        x.trim(0);
        due.is("twelve", x.feed('f' << 24 | 'e' << 16 | 'e' << 8 | ' ', '1' << 24 | '2' << 16 | '3' << 8 | '4', '+' << 24 | '5' << 16 | '/' << 8 | '2'), 12);
        due.is("the highest first", x.text(), 0);
        due.is("fee 1234+5/2", x.fee(), 1236);
        x.feed('f' << 24 | 'e' << 16 | 'e' << 8 | ' ', ' ' << 24 | ' ' << 16 | ' ' << 8 | '1', '+' << 24 | 0xe9 << 16 | 0xff << 8 | 0x80);
        due.is("bytes above 127", x.text(), -109);
        x.feed('f' << 24 | 'e' << 16 | 'e' << 8 | ' ', '1' << 24 | ' ' << 16 | ' ' << 8 | ' ', ' ' << 24 | ' ' << 16 | ' ' << 8 | ' ');
        due.is("behind the others", x.feed('+' << 24 | '2' << 16 | '+' << 8 | '3', '+' << 24 | '4' << 16 | '+' << 8 | '5', '+' << 24 | '6' << 16 | '+' << 8 | '7'), 24);
        due.is("text()", x.text(), 1);
        due.is("fee 1 +2+3+4+5+6+7", x.fee(), 28);
        x.feed(-1, -1, -1);
        due.is("a byte below 0 in the number", x.text(), -100);
        due.promise(27, "FULL: it would have more than 96.");
        for (int i = 0; i < 7; i++) x.feed(0, 0, 0);
        due.is("96", x.feed(0, 0, 0), 96);
        due.is("108", x.feed(0, 0, 0), FULL);
        due.is("it stays", x.count(5), 96);
        x.trim(85);
        due.is("97", x.feed(0, 0, 0), FULL);
        due.is("it stays", x.count(5), 85);
        x.trim(84);
        due.is("96", x.feed(0, 0, 0), 96);
    }

    private static void trim() {
        due.promise(28, "THE TAPE keeps its first n bytes: n.");
        EchoFolk x = new EchoFolk();
        due.is("none of none", x.trim(0), 0);
        Due.feed(x, "fee 12+34567");
        due.is("all", x.trim(12), 12);
        due.is("the first ones", x.trim(9), 9);
        due.is("count(5)", x.count(5), 9);
        due.is("text()", x.text(), 0);
        due.is("fee 12+34", x.fee(), 46);
        Due.feed(x, "fee 12+34567");
        due.is("none", x.trim(0), 0);
        due.is("count(5)", x.count(5), 0);
        due.promise(28, "BAD.");
        due.is("one of none", x.trim(1), BAD);
        x.feed(1, 2, 3);
        int[] bad = {13, -1, 96, 97, MOST, LEAST};
        for (int b : bad) due.is("trim", x.trim(b), BAD);
        due.is("it stays", x.count(5), 12);
        x.trim(5);
        due.is("what is gone does not come back", x.trim(6), BAD);
        due.is("five", x.trim(5), 5);
    }

    private static void text() {
        due.promise(29, "THE TAPE is a TEXT: its number.");
        EchoFolk x = new EchoFolk();
        String[] texts = {"fee 1", "  keep   (  e)+f ", "keep(e)+f", "keep!e", "fine s", "fee((1))", "fee 1 + 2 * ( 3 - s ) / 4 < 5 & ! 6 | 7"};
        for (int i = 0; i < texts.length; i++) {
            due.is(texts[i], Due.text(x, texts[i]), i);
            due.is("count(3)", x.count(3), i + 1);
        }
        due.promise(29, "-100 less the place of its FAULT; FULL.");
        due.is("place 0", Due.text(x, "x"), -100);
        due.is("place 4", Due.text(x, "fee x"), -104);
        due.is("no text came", x.count(3), 7);
        StringBuilder late = new StringBuilder("fee 1");
        while (late.length() < 95) late.append(' ');
        due.is("place 95", Due.text(x, late + "x"), -195);
        due.is("place 96", Due.text(x, late.replace(94, 95, "+") + " "), -196);
        for (int i = 7; i < 14; i++) Due.text(x, "fee 1");
        due.is("a fault stands ahead of full", Due.text(x, "fee x"), -104);
        due.is("full", Due.text(x, "fee 2"), FULL);
        due.is("no text came", x.count(3), 14);
        due.is("the last one counts", x.fee(), 1);
    }

    private static void longTexts() {
        due.promise(29, "THE TAPE is a TEXT");
        EchoFolk x = new EchoFolk();
        StringBuilder faulty = new StringBuilder("fee 1");
        while (faulty.length() < 90) faulty.append("+1");
        faulty.append("+x");
        for (int i = 0; i < 3; i++) due.is("a fault", Due.text(x, faulty.toString()), -100 - faulty.length() + 1);
        due.is("a short one behind a long fault", Due.text(x, "fee 5*2"), 0);
        due.is("its value", x.fee(), 10);
        due.is("its numbers", x.textTold(0, 1), 2);
        StringBuilder longest = new StringBuilder("fee 10");
        while (longest.length() < 96) longest.append("+1");
        due.is("96 bytes", longest.length(), 96);
        due.is("the longest", Due.text(x, longest.toString()), 1);
        due.is("its value", x.fee(), 55);
        due.is("its numbers", x.textTold(1, 1), 46);
        String deep = "fee 1|1&1<1+1*(1|1&1<1+1*(1|1&1<1+1*(1|1&1<1+1*(1|1&1<1+1*(1|1&1<1+1*(1|1&1<1+1*(1|1))))))))";
        due.is("the deepest", Due.text(x, deep.substring(0, deep.length() - 1)), 2);
        due.is("its value", x.fee(), 1);
    }

    private static void textTold() {
        due.promise(30, "Of a TEXT: what 0 KEY (0 keep, 1 fee, 2 fine), 1 how many NUMBERS and NAMES it has.");
        EchoFolk x = new EchoFolk();
        Due.text(x, "fine s+f*(12-s)");
        Due.text(x, "keep !e");
        Due.text(x, "fee 5");
        Due.text(x, "fee s+s+1234+0|!l");
        int[][] by = {{2, 4}, {0, 1}, {1, 1}, {1, 5}};
        for (int text = 0; text < 4; text++) {
            for (int what = 0; what < 2; what++) due.is("textTold(" + text + ", " + what + ")", x.textTold(text, what), by[text][what]);
        }
        due.promise(30, "BAD.");
        int[][] bad = {{4, 0}, {-1, 0}, {0, 2}, {0, -1}, {13, 0}, {14, 0}, {15, 0}, {MOST, 0}, {LEAST, 0}, {0, MOST}, {0, LEAST}};
        for (int[] b : bad) due.is("textTold", x.textTold(b[0], b[1]), BAD);
        Due.text(x, "fee 1 1");
        due.is("a fault is no text", x.textTold(4, 0), BAD);
        due.is("there are none", new EchoFolk().textTold(0, 0), BAD);
        due.is("there are none", new EchoFolk().textTold(0, 1), BAD);
    }

    private static void why() {
        due.promise(31, "The TEXT that counts for a KEY.");
        EchoFolk x = new EchoFolk();
        Due.text(x, "fine s");
        Due.text(x, "keep e");
        Due.text(x, "fine f");
        due.is("why(0)", x.why(0), 1);
        due.is("why(2)", x.why(2), 2);
        due.promise(31, "BAD; NONE.");
        due.is("none of that key", x.why(1), NONE);
        for (int key = 0; key < 3; key++) due.is("none at all", new EchoFolk().why(key), NONE);
        int[] bad = {3, -1, MOST, LEAST};
        for (int b : bad) due.is("why", x.why(b), BAD);
    }
}
