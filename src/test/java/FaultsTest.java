/** Where a text goes wrong: the words and signs of term 4, and the place of a fault. */
public final class FaultsTest {
    private static final int NONE = -1000000005;
    private static final String SIGNS_BETWEEN = "+-*/<=>&|";
    private static final Due due = new Due("FaultsTest");

    public static void main(String[] args) {
        wordsAsLongAsTheyGo();
        anyOtherByte();
        blanks();
        aBlankNeeded();
        firstByte();
        noTextGoesOn();
        fourDigits();
        eightBrackets();
        eightNots();
        eachByItself();
        tooSoon();
        due.end();
    }

    private static void fault(String text, int place) {
        EchoFolk x = new EchoFolk();
        due.is("'" + text + "'", Due.text(x, text), -100 - place);
        due.is("no text came", x.count(3), 0);
        for (int key = 0; key < 3; key++) due.is("no text counts", x.why(key), NONE);
    }

    private static void good(String text) {
        due.is("'" + text + "'", Due.text(new EchoFolk(), text), 0);
    }

    private static void wordsAsLongAsTheyGo() {
        due.term(4, "A word is a row of letters a .. z, or of digits, as long as it goes;");
        good("fee s");
        fault("fee ss", 4);
        fault("fee sa", 4);
        fault("fee sz", 4);
        fault("fee s`", 5);
        fault("fee s{", 5);
        fault("fee sS", 5);
        fault("fee A", 4);
        fault("fee Z", 4);
        fault("fees", 0);
        fault("feefine s", 0);
        good("fee 1234");
        good("fee 0009");
        fault("fee 1:", 5);
        fault("fee 1.5", 5);
        fault("fee 12 34", 7);
    }

    private static void anyOtherByte() {
        due.term(4, "any other byte is a sign by itself.");
        for (int b = 0; b < 256; b++) {
            char c = (char) b;
            boolean digit = c >= '0' && c <= '9';
            boolean letter = c >= 'a' && c <= 'z';
            if (digit || c == ' ') good("fee 1" + c);
            else fault("fee 1" + c, SIGNS_BETWEEN.indexOf(c) >= 0 ? 6 : 5);
            if (digit || c == 's' || c == 'l') good("fee " + c);
            else fault("fee " + c, c == '(' || c == '!' || c == ' ' ? 5 : 4);
            if (c == ' ') good(c + "fee 1");
            else fault(c + "fee 1", 0);
            if (SIGNS_BETWEEN.indexOf(c) >= 0) good("fee 1" + c + "1");
            else if (!digit && c != ' ') fault("fee 1" + c + "1", 5);
            if (!digit && !letter && c != ' ' && c != '(' && c != '!') fault("fee" + c + "1", 3);
        }
        fault("fee 1<=2", 6);
        fault("fee 1&&1", 6);
        fault("fee 1||1", 6);
        fault("fee 1==1", 6);
    }

    private static void blanks() {
        due.term(4, "Between words and signs, and at the ends, there may be blanks (byte 32);");
        good("  fee   1  ");
        good("fee ( 1 + s ) * ! 2");
        good("fee(1+s)*!2");
        good("fee!1");
        good("fee 1                                                                                          ");
        fault("                                                                                                ", 96);
        fault("fee\t1", 3);
        fault("fee\n1", 3);
        fault("fee 1\n", 5);
        fault("\tfee 1", 0);
        fault("fee \u001f1", 4);
        fault("fee \u00a01", 4);
        fault("fee\0001", 3);
        fault("fee 1\0", 5);
        fault("f ee 1", 0);
        fault("fee 1 2", 6);
    }

    private static void aBlankNeeded() {
        due.term(4, "a word right behind another one needs one.");
        fault("fee1", 3);
        fault("keep0+1", 4);
        fault("fine1", 4);
        fault("fee 1s", 5);
        fault("fee s1", 5);
        fault("fee 1234s", 8);
        fault("fee (1s)", 6);
        fault("fee s+1s", 7);
        fault("1fee", 0);
        good("fee 1");
        good("fee (1)");
        good("fee(1)");
    }

    private static void firstByte() {
        due.term(4, "FAULT: the first byte of the first word or sign with which no TEXT goes on (a word that needs a blank ahead of it,");
        fault("fe", 0);
        fault(" why 1", 1);
        fault("fee abc", 4);
        fault("fee   abc  ", 6);
        fault("fee s+abc", 6);
        fault("fee x y", 4);
        fault("fee ) )", 4);
        fault("fee 1 fee 2", 6);
        fault("fee 1 1 x", 6);
        fault("fee 1s", 5);
        fault("fee 1ss", 5);
        fault("fee s12345", 5);
    }

    private static void noTextGoesOn() {
        due.term(4, "the first word or sign with which no TEXT goes on");
        fault("(fee 1)", 0);
        fault("fee +1", 4);
        fault("fee 1++1", 6);
        fault("fee 1 * / 1", 8);
        fault("fee 1!", 5);
        fault("fee 1!1", 5);
        fault("fee 1(2)", 5);
        fault("fee (1)(2)", 7);
        fault("fee (1)2", 7);
        fault("fee (1) 2", 8);
        fault("fee s(1)", 5);
        fault("fee 1)", 5);
        fault("fee (1))", 7);
        fault("fee (1+2))", 9);
        fault("fee !)", 5);
        fault("fee !+1", 5);
        fault("fee (1<2<3)", 8);
        fault("fee (+", 5);
        fault("fee fee", 4);
        fault("fee keep", 4);
    }

    private static void fourDigits() {
        due.term(4, "a NUMBER of more than 4 digits,");
        good("fee 9999");
        fault("fee 10000", 4);
        fault("fee 00001", 4);
        fault("fee 1+12345", 6);
        fault("fee (12345)", 5);
        fault("fee !123456789", 5);
        fault("fee 12345 x", 4);
        good("fee 9999+9999");
    }

    private static void eightBrackets() {
        due.term(4, "the ninth ( that would be open within others,");
        good("fee ((((((((5))))))))");
        fault("fee (((((((((5)))))))))", 12);
        fault("fee (((((((((", 12);
        fault("fee ((((((((", 12);
        fault("fee 1+(((((((((", 14);
        good("fee ((((((((1))))))))+((((((((2))))))))");
        good("fee (1)+(1)+(1)+(1)+(1)+(1)+(1)+(1)+(1)+(1)");
        good("fee ((((((((1)+(2))))))))");
        good("fee (((((((1+(2))))))))");
        fault("fee ((((((((1)+((2)))))))))", 16);
        fault("fee ((((((((1+(2)))))))))", 14);
    }

    private static void eightNots() {
        due.term(4, "the ninth ! likewise,");
        good("fee !!!!!!!!5");
        fault("fee !!!!!!!!!5", 12);
        fault("fee !!!!!!!!", 12);
        fault("fee !!!!!!!!!", 12);
        fault("fee 1+!!!!!!!!!5", 14);
        good("fee !!!!!!!!1+!!!!!!!!1");
        good("fee !1+!1+!1+!1+!1+!1+!1+!1+!1+!1");
        good("fee !!!!!!!!(1)+(!!!!!!!!1)");
        fault("fee !!!!!!!!(!1)", 13);
        fault("fee !(!(!(!(!(!(!(!(!1", 20);
        fault("fee !!!!!!!(!1+!!1)", 16);
        good("fee !!!!!!!(!1+!1)");
    }

    private static void eachByItself() {
        due.term(4, "each by itself)");
        good("fee !(!(!(!(!(!(!(!(7))))))))");
        good("fee !!!!!!!!((((((((7))))))))");
        good("fee ((((((((!!!!!!!!7))))))))");
        fault("fee !!!!!!!!(((((((((7)))))))))", 20);
        fault("fee ((((((((!!!!!!!!!7))))))))", 20);
        fault("fee !(!(!(!(!(!(!(!((7", 20);
    }

    private static void tooSoon() {
        due.term(4, "the end (the place behind the last byte), if it comes too soon.");
        fault("", 0);
        fault(" ", 1);
        fault("   ", 3);
        fault("fee", 3);
        fault("keep", 4);
        fault("fee  ", 5);
        fault("fee 1+", 6);
        fault("fee 1+  ", 8);
        for (char sign : SIGNS_BETWEEN.toCharArray()) fault("fee s" + sign, 6);
        fault("fee (1", 6);
        fault("fee (1 ", 7);
        fault("fee ((1)", 8);
        fault("fee (1+2", 8);
        fault("fee (", 5);
        fault("fee !", 5);
        fault("fee !!", 6);
        fault("fee 1|", 6);
        fault("fee 1<", 6);
        good("fee 1");
    }
}
