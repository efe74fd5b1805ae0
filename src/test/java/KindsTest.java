/** The kinds, what they keep, take, how far they go, what they are worth, and how they hear: term 1. */
public final class KindsTest {
    private static final int KIND = -1000000012;
    private static final int[] FROM_0_TO_12 = {0, 1, 2, 3, 4, 5, 6, 7, 8, 9, 10, 11, 12};
    private static final Due due = new Due("KindsTest");

    public static void main(String[] args) {
        underOneAnother();
        keepsOfASpeaker();
        keepsOfOthers();
        takes();
        takesFromTheFirstOn();
        goes();
        worth();
        asTheOneAbove();
        hearsBehind();
        hearsAllAtOnce();
        hearsAndForgets();
        keepsToldAnew();
        hearsNothing();
        due.end();
    }

    private static EchoFolk one(int kind, int ear, int fame) {
        EchoFolk x = new EchoFolk();
        x.speaker(kind, ear, fame);
        return x;
    }

    /** Speaker 0, of a kind, has heard the words 0 .. 11 before it turned. */
    private static EchoFolk withTwelveWords(int kind) {
        EchoFolk x = one(0, 9, 0);
        Due.words(x, 0, 0, 1, 2, 3, 4, 5, 6, 7, 8, 9, 10, 11);
        x.turns(0, kind);
        return x;
    }

    private static void underOneAnother() {
        due.term(1, "and of KINDS: 0 SPEAKER; 1 CHILD, 2 ELDER, 5 DEAF, under SPEAKER; 3 LOVER, under CHILD; 4 LIAR, under ELDER (all are SPEAKERS).");
        int[] among = {Due.set(0), Due.set(0, 1), Due.set(0, 2), Due.set(0, 1, 3), Due.set(0, 2, 4), Due.set(0, 5)};
        for (int kind = 0; kind < 6; kind++) {
            EchoFolk x = one(kind, 1, 7);
            for (int k = 0; k < 6; k++) due.is(kind + " as " + k, x.as(0, k), (among[kind] >> k & 1) == 1 ? 7 : KIND);
        }
    }

    private static int keeps(int kind, String text) {
        EchoFolk x = one(kind, 5, 4);
        if (!text.isEmpty()) due.is(text, Due.text(x, text), 0);
        return x.told(0, 6);
    }

    private static void keepsOfASpeaker() {
        due.term(1, "KEEPS (how many WORDS of its HEARD it can have): SPEAKER: what keep gives, held within 0 .. 12 (without a TEXT: 12).");
        due.is("without a text", keeps(0, ""), 12);
        for (int n : FROM_0_TO_12) due.is("keep " + n, keeps(0, "keep " + n), n);
        due.is("13", keeps(0, "keep 13"), 12);
        due.is("9999", keeps(0, "keep 9999"), 12);
        due.is("the greatest int", keeps(0, "keep 2147*1000*1000+483*1000+647"), 12);
        due.is("-1", keeps(0, "keep 0-1"), 0);
        due.is("the least int", keeps(0, "keep 0-2147*1000*1000-483*1000-648"), 0);
        due.is("one more wraps around", keeps(0, "keep 2147*1000*1000+483*1000+648"), 0);
        due.is("one less wraps around", keeps(0, "keep 0-2147*1000*1000-483*1000-649"), 12);
        due.is("by its ear and fame", keeps(0, "keep e+f"), 9);
        due.is("another key", keeps(0, "fee 1"), 12);
    }

    private static void keepsOfOthers() {
        due.term(1, "(without a TEXT: 12). CHILD: half (cut) of as SPEAKER.");
        int[] child = {0, 0, 1, 1, 2, 2, 3, 3, 4, 4, 5, 5, 6};
        for (int n : FROM_0_TO_12) due.is("keep " + n, keeps(1, "keep " + n), child[n]);
        due.is("without a text", keeps(1, ""), 6);
        due.is("held ahead of it", keeps(1, "keep 20"), 6);
        due.is("held ahead of it", keeps(1, "keep 0-20"), 0);
        due.term(1, "LOVER: as CHILD, and 3.");
        int[] lover = {3, 3, 4, 4, 5, 5, 6, 6, 7, 7, 8, 8, 9};
        for (int n : FROM_0_TO_12) due.is("keep " + n, keeps(3, "keep " + n), lover[n]);
        due.is("without a text", keeps(3, ""), 9);
        due.is("held ahead of it", keeps(3, "keep 20"), 9);
        due.is("held ahead of it", keeps(3, "keep 0-20"), 3);
        int[] elder = {0, 0, 0, 1, 2, 3, 4, 5, 6, 7, 8, 9, 10};
        due.term(1, "ELDER: as SPEAKER, less 2 (0 at least).");
        for (int n : FROM_0_TO_12) due.is("keep " + n, keeps(2, "keep " + n), elder[n]);
        due.is("without a text", keeps(2, ""), 10);
        due.is("held ahead of it", keeps(2, "keep 14"), 10);
        due.is("held ahead of it", keeps(2, "keep 0-14"), 0);
        due.term(1, "LIAR: as ELDER. DEAF: 0.");
        for (int n : FROM_0_TO_12) due.is("keep " + n, keeps(4, "keep " + n), elder[n]);
        for (int n : FROM_0_TO_12) due.is("keep " + n, keeps(5, "keep " + n), 0);
        due.is("a liar without a text", keeps(4, ""), 10);
        due.is("a deaf one without a text", keeps(5, ""), 0);
    }

    private static void takes(int kind, int... byEar) {
        for (int ear = 1; ear <= 9; ear++) {
            EchoFolk x = one(kind, ear, 50);
            due.is("takes", x.told(0, 7), byEar[ear - 1]);
            x.speaker(0, 9, 0);
            Due.words(x, 1, 0, 1, 2, 3, 4, 5, 6, 7, 8);
            x.turns(1, 4);
            due.is("nine are spoken", x.says(1, 0, 0), 9);
            int taken = Math.min(9, byEar[ear - 1]);
            int kept = Math.min(taken, x.told(0, 6));
            due.is("what it took and keeps", x.told(0, 4), kept);
            due.is("what it took and lost", x.folk(1), taken - kept);
        }
    }

    private static void takes() {
        due.term(1, "TAKES (of a row of WORDS that is spoken to it, how many, from its first on): SPEAKER: EAR.");
        takes(0, 1, 2, 3, 4, 5, 6, 7, 8, 9);
        due.term(1, "CHILD: as SPEAKER, and 2. LOVER: as CHILD. ELDER: half (cut) of as SPEAKER.");
        takes(1, 3, 4, 5, 6, 7, 8, 9, 10, 11);
        takes(3, 3, 4, 5, 6, 7, 8, 9, 10, 11);
        takes(2, 0, 1, 1, 2, 2, 3, 3, 4, 4);
        due.term(1, "LIAR: 1 more than as ELDER. DEAF: 0.");
        takes(4, 1, 2, 2, 3, 3, 4, 4, 5, 5);
        takes(5, 0, 0, 0, 0, 0, 0, 0, 0, 0);
    }

    private static void takesFromTheFirstOn() {
        due.term(1, "(of a row of WORDS that is spoken to it, how many, from its first on)");
        EchoFolk x = withTwelveWords(4);
        x.speaker(0, 4, 0);
        due.is("3 .. 11 are spoken", x.says(0, 1, 3), 9);
        due.is("four are taken", x.told(1, 4), 4);
        for (int i = 0; i < 4; i++) due.is("word", x.heard(1, i), 3 + i);
        EchoFolk y = withTwelveWords(1);
        y.speaker(0, 4, 0);
        due.is("two are spoken", y.says(0, 1, 3), 2);
        due.is("all are taken", y.told(1, 4), 2);
    }

    private static void goes() {
        due.term(1, "GOES (how many WORDS it can say in one breath): SPEAKER: 3. CHILD: 2. LOVER: as CHILD, and 2. ELDER: 4. LIAR: as ELDER, and 5. DEAF: as SPEAKER.");
        int[] goes = {3, 2, 4, 4, 9, 3};
        for (int kind = 0; kind < 6; kind++) {
            EchoFolk x = withTwelveWords(kind);
            due.is("goes", x.told(0, 8), goes[kind]);
            x.speaker(0, 9, 0);
            due.is("says", x.says(0, 1, 0), goes[kind]);
            Due.shorts(x, 0, 0, 1, 2, 3, 4, 5, 6, 7, 8, 9, 10, 11);
            x.sheet(1, 0, goes[kind]);
            x.copy(0, 0, 1, 0, goes[kind]);
            due.is("in one breath", x.breaths(1, 0), 1);
            x.sheet(1, 0, goes[kind] + 1);
            x.copy(0, 0, 1, 0, goes[kind] + 1);
            due.is("in two", x.breaths(1, 0), 2);
        }
    }

    private static void worth(int kind, int of0, int of50, int of99) {
        due.is("worth of fame 0", one(kind, 1, 0).told(0, 9), of0);
        due.is("worth of fame 50", one(kind, 9, 50).told(0, 9), of50);
        due.is("worth of fame 99", one(kind, 1, 99).told(0, 9), of99);
    }

    private static void worth() {
        due.term(1, "WORTH: SPEAKER: FAME. CHILD: as SPEAKER, and 6. LOVER: twice as CHILD. ELDER: 99 less FAME. LIAR: as ELDER, less 8. DEAF: 1.");
        worth(0, 0, 50, 99);
        worth(1, 6, 56, 105);
        worth(3, 12, 112, 210);
        worth(2, 99, 49, 0);
        worth(4, 91, 41, -8);
        worth(5, 1, 1, 1);
    }

    private static void asTheOneAbove() {
        due.term(1, "(A KIND that is not named does as the one above it.)");
        due.is("a lover takes as a child", one(3, 7, 0).told(0, 7), one(1, 7, 0).told(0, 7));
        due.is("a liar keeps as an elder", one(4, 7, 0).told(0, 6), one(2, 7, 0).told(0, 6));
        due.is("a deaf one goes as a speaker", one(5, 7, 0).told(0, 8), one(0, 7, 0).told(0, 8));
    }

    private static void hearsBehind() {
        due.term(1, "HEARS: of a row that is spoken to it the WORDS that it TAKES are put behind its HEARD, in order, all;");
        EchoFolk x = one(0, 2, 0);
        x.speaks(0, 9, 7, 8);
        x.speaks(0, 7, 3, 1);
        int[] heard = {9, 7, 7, 3, -1000000005};
        for (int i = 0; i < heard.length; i++) due.is("heard", x.heard(0, i), heard[i]);
        due.is("nothing is lost", x.folk(1), 0);
    }

    private static void hearsAllAtOnce() {
        due.term(1, "in order, all; then, as long as there are more than it KEEPS");
        EchoFolk x = withTwelveWords(4);
        x.speaker(0, 9, 0);
        x.speaker(0, 6, 0);
        Due.text(x, "keep 12*(w>6)");
        x.says(0, 1, 0);
        due.is("nine come ahead of what it keeps", x.told(1, 4), 9);
        x.says(0, 2, 0);
        due.is("six are too few to be kept", x.told(2, 4), 0);
        due.is("lost", x.folk(1), 6);
    }

    private static void hearsAndForgets() {
        due.term(1, "the oldest one is forgotten (LOST 1 more).");
        EchoFolk x = withTwelveWords(0);
        due.is("nothing is lost by twelve", x.folk(1), 0);
        due.is("thirteen", x.speaks(0, 12, -1, -1), 12);
        due.is("one is lost", x.folk(1), 1);
        due.is("the oldest", x.heard(0, 0), 1);
        due.is("fifteen", x.speaks(0, 13, 14, 15), 12);
        due.is("three more are lost", x.folk(1), 4);
        due.is("the oldest", x.heard(0, 0), 4);
        due.is("the newest", x.heard(0, 11), 15);
        x.speaker(1, 9, 0);
        Due.words(x, 1, 1, 2, 3, 4, 5, 6);
        due.is("six are kept by a child", x.told(1, 4), 6);
        due.is("seven are not", x.speaks(1, 7, -1, -1), 6);
        due.is("another one's are lost as well", x.folk(1), 5);
        x.turns(0, 4);
        x.says(0, 1, 0);
        due.is("nine come to six", x.told(1, 4), 6);
        due.is("nine more are lost", x.folk(1), 14);
        due.is("the oldest", x.heard(1, 0), 7);
        due.is("the one who spoke keeps its own", x.told(0, 4), 12);
    }

    private static void keepsToldAnew() {
        due.term(1, "as long as there are more than it KEEPS (told anew each time, by how many it has by then),");
        EchoFolk x = one(0, 3, 0);
        Due.text(x, "keep 12-w");
        due.is("three keep nine", x.speaks(0, 1, 2, 3), 3);
        due.is("six keep six", x.speaks(0, 4, 5, 6), 6);
        due.is("nine keep 3, eight 4, seven 5, six 6", x.speaks(0, 7, 8, 9), 6);
        due.is("lost", x.folk(1), 3);
        due.is("the oldest", x.heard(0, 0), 4);
        due.is("keeps now", x.told(0, 6), 6);
        EchoFolk y = one(0, 3, 0);
        Due.text(y, "keep 12*(w<6)+3*(w>5)");
        y.speaks(0, 1, 2, 3);
        due.is("six keep 3, five 12", y.speaks(0, 4, 5, 6), 5);
        due.is("lost", y.folk(1), 1);
        EchoFolk z = one(0, 3, 0);
        Due.text(z, "keep w-1");
        due.is("always one too many", z.speaks(0, 1, 2, 3), 0);
        due.is("lost", z.folk(1), 3);
        EchoFolk a = withTwelveWords(0);
        Due.text(a, "keep w");
        due.is("fifteen, held within 12", a.speaks(0, 1, 2, 3), 12);
    }

    private static void hearsNothing() {
        due.term(1, "then, as long as there are more than it KEEPS");
        EchoFolk x = withTwelveWords(5);
        due.is("what it has stays until it is spoken to", x.told(0, 4), 12);
        due.is("a deaf one takes none and keeps none", x.speaks(0, 1, 2, 3), 0);
        due.is("lost", x.folk(1), 12);
        EchoFolk y = withTwelveWords(2);
        due.is("an elder keeps ten", y.speaks(0, -1, -1, -1), 10);
        due.is("lost", y.folk(1), 2);
        due.is("the oldest", y.heard(0, 0), 2);
        EchoFolk z = withTwelveWords(0);
        Due.text(z, "keep 4");
        due.is("a new text alone makes nobody forget", z.told(0, 4), 12);
        due.is("being spoken to does", z.speaks(0, 12, -1, -1), 4);
        due.is("the oldest", z.heard(0, 0), 9);
    }
}
