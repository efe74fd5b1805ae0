/** Promises 16 to 19. */
public final class SayingsTest {
    private static final int BAD = -1000000001, NONE = -1000000005, NOTHING = -1000000011, SIZE = -1000000014;
    private static final Due due = new Due("SayingsTest");

    public static void main(String[] args) {
        breaths();
        whatASayingIs();
        wanting();
        who();
        teacher();
        teacherOfOneWhoForgets();
        due.end();
    }

    private static void breaths() {
        due.promise(16);
        EchoFolk x = new EchoFolk();
        int[] due12345 = {2, 3, 2, 2, 1};
        for (int kind = 0; kind < 5; kind++) {
            x.speaker(kind, 9, 0);
            Due.words(x, kind, 1, 2, 3, 4, 5);
        }
        x.speaker(0, 9, 0);
        Due.words(x, 5, 1, 2, 3, 4, 5);
        x.turns(5, 5);
        Due.shorts(x, 0, 1, 2, 3, 4, 5);
        for (int kind = 0; kind < 5; kind++) due.is("breaths", x.breaths(0, kind), due12345[kind]);
        due.is("a deaf one goes three", x.breaths(0, 5), 2);
        Due.shorts(x, 0, 5, 4, 3, 2, 1);
        due.is("each by itself", x.breaths(0, 4), 5);
        Due.shorts(x, 0, 2, 3, 4, 5, 1, 2, 5);
        due.is("234 | 5 | 12 | 5", x.breaths(0, 0), 4);
        due.is("2345 | 12 | 5", x.breaths(0, 4), 3);
        Due.shorts(x, 0, 1, 2, 6);
        due.is("it cannot", x.breaths(0, 4), NONE);
        due.is("breaths(4, 0)", x.breaths(4, 0), BAD);
        due.is("breaths(-1, 0)", x.breaths(-1, 0), BAD);
        due.is("breaths(0, 6)", x.breaths(0, 6), BAD);
        due.is("breaths(0, -1)", x.breaths(0, -1), BAD);
        due.is("breaths(1, 0)", x.breaths(1, 0), NOTHING);
        due.is("breaths(1, 6)", x.breaths(1, 6), BAD);
    }

    private static void whatASayingIs() {
        due.promise(16);
        EchoFolk x = new EchoFolk();
        x.speaker(0, 9, 0);
        Due.words(x, 0, 0, 1, 2, 19);
        x.sheet(0, 0, 0);
        due.is("no places", x.breaths(0, 0), SIZE);
        Due.shorts(x, 0, 20, 0);
        due.is("no words", x.breaths(0, 0), SIZE);
        Due.shorts(x, 0, -1, 0);
        due.is("no words", x.breaths(0, 0), SIZE);
        Due.floats(x, 0, NONE, 0);
        due.is("no number", x.breaths(0, 0), SIZE);
        Due.floats(x, 0, 0, 1, NONE, 7);
        due.is("ends ahead of it", x.breaths(0, 0), 1);
        Due.shorts(x, 0, 2, 19, 20, 7);
        due.is("ends ahead of it", x.breaths(0, 0), 1);
        Due.shorts(x, 0, 0, 0, 0, 0, 0, 0, 0, 0, 0, 0, 0, 0, 7, 7);
        due.is("twelve at most", x.breaths(0, 0), 12);
        Due.shorts(x, 0, 0, 0, 0, 0, 0, 0, 0, 0, 0, 0, 0, 7);
        due.is("the twelfth counts", x.breaths(0, 0), NONE);
    }

    private static void wanting() {
        due.promise(17);
        EchoFolk x = new EchoFolk();
        Due.shorts(x, 0, 3, 1);
        due.is("nobody has a word", x.wanting(0), 3);
        x.speaker(0, 9, 0);
        x.speaker(0, 9, 0);
        Due.words(x, 0, 3);
        due.is("wanting", x.wanting(0), 1);
        Due.words(x, 1, 1);
        due.is("none is", x.wanting(0), NONE);
        Due.shorts(x, 0, 3, 20, 7);
        due.is("none is", x.wanting(0), NONE);
        x.forgets(0);
        due.is("it is forgotten", x.wanting(0), 3);
        x.sheet(0, 0, 0);
        due.is("no words", x.wanting(0), NONE);
        due.is("wanting(1)", x.wanting(1), NOTHING);
        due.is("wanting(4)", x.wanting(4), BAD);
        due.is("wanting(-1)", x.wanting(-1), BAD);
    }

    private static void who() {
        due.promise(18);
        EchoFolk x = new EchoFolk();
        Due.shorts(x, 0, 3, 1);
        due.is("nobody", x.who(0), 0);
        for (int i = 0; i < 8; i++) x.speaker(0, 9, 0);
        Due.words(x, 7, 1, 3);
        Due.words(x, 2, 4, 1, 3, 1);
        Due.words(x, 3, 3);
        due.is("2 and 7", x.who(0), Due.set(2, 7));
        Due.words(x, 0, 3, 1);
        due.is("0, 2 and 7", x.who(0), Due.set(0, 2, 7));
        Due.shorts(x, 0, -1);
        due.is("no words", x.who(0), SIZE);
        due.is("who(1)", x.who(1), NOTHING);
        due.is("who(4)", x.who(4), BAD);
        due.is("who(-1)", x.who(-1), BAD);
    }

    private static void teacher() {
        due.promise(19);
        EchoFolk x = new EchoFolk();
        for (int i = 0; i < 4; i++) x.speaker(0, 9, 0);
        Due.words(x, 0, 1);
        Due.words(x, 1, 7, 4, 3, 2, 1);
        Due.words(x, 2, 1, 2, 3, 4, 7);
        Due.words(x, 3, 1, 2, 3, 4, 7);
        Due.shorts(x, 0, 1, 2, 3, 4);
        due.is("by fewest, the least", x.teacher(0, 0, 0), 2);
        due.is("123 | 4", x.teacher(0, 0, 1), 2);
        due.is("not itself", x.teacher(0, 2, 0), 0);
        due.is("nothing changed", x.told(0, 4), 1);
        due.is("nothing changed", x.folk(1), 0);
        due.is("nothing changed", x.folk(0), 0);
        x.set(0, 1, 2);
        due.is("it takes two: 7, 4 or 1, 2", x.teacher(0, 0, 0), NONE);
        due.is("it takes two: 7, 4 or 1, 2", x.teacher(0, 0, 1), NONE);
        Due.shorts(x, 0, 4, 7);
        due.is("teacher", x.teacher(0, 0, 0), 1);
        due.is("teacher", x.teacher(0, 0, 1), 2);
        Due.shorts(x, 0, 20);
        due.is("no words", x.teacher(0, 0, 0), SIZE);
        due.is("teacher(1, 0, 0)", x.teacher(1, 0, 0), NOTHING);
        int[][] bad = {{4, 0, 0}, {-1, 0, 0}, {0, 4, 0}, {0, -1, 0}, {0, 0, 2}, {0, 0, -1}, {1, 4, 0}};
        for (int[] b : bad) due.is("teacher", x.teacher(b[0], b[1], b[2]), BAD);
        EchoFolk alone = new EchoFolk();
        alone.speaker(0, 9, 0);
        Due.words(alone, 0, 1);
        Due.shorts(alone, 0, 1);
        due.is("there is no other one", alone.teacher(0, 0, 0), NONE);
    }

    private static void teacherOfOneWhoForgets() {
        due.promise(19);
        EchoFolk x = new EchoFolk();
        x.speaker(0, 9, 0);
        x.speaker(0, 9, 0);
        x.speaker(0, 1, 0);
        Due.words(x, 0, 1, 2, 3);
        Due.words(x, 1, 4, 5, 6, 7);
        Due.words(x, 2, 8);
        Due.text(x, "keep 4");
        Due.shorts(x, 0, 3);
        due.is("with 1 it forgets 1, 2, 3", x.teacher(0, 0, 0), 2);
        Due.shorts(x, 0, 4, 5, 6, 7);
        due.is("all is spoken at once", x.teacher(0, 0, 1), 2);
        Due.shorts(x, 0, 1);
        due.is("with 2 it keeps 1, 2, 3, 8", x.teacher(0, 0, 0), 2);
        x.turns(0, 5);
        due.is("a deaf one forgets all", x.teacher(0, 0, 0), NONE);
    }
}
