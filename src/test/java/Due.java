/**
 * What the tests of the promises share: they name a sentence of the document, say which answers are due by it, and end
 * with exit code 1 if one was not given. SentencesTest looks that the sentences stand in the document, and that all do.
 */
final class Due {
    private final String name;
    private String sentence = "no sentence";
    private int underSentence = 1;
    private int right;
    private int wrong;

    Due(String name) {
        this.name = name;
    }

    /** What comes now tests this piece of a promise. */
    void promise(int number, String piece) {
        begin("promise " + number + ", '" + piece + "'");
    }

    /** What comes now tests this piece of the section Terms (0: what stands ahead of its 1). */
    void term(int number, String piece) {
        begin("term " + number + ", '" + piece + "'");
    }

    private void begin(String next) {
        if (underSentence == 0) wrong("has no test");
        sentence = next;
        underSentence = 0;
    }

    void is(String call, int got, int want) {
        underSentence++;
        if (got == want) right++;
        else wrong(call + " answered " + got + ", due is " + want);
    }

    private void wrong(String what) {
        wrong++;
        System.out.println(name + ", " + sentence + ": " + what);
    }

    void end() {
        if (underSentence == 0) wrong("has no test");
        System.out.println(name + ": " + right + " answers are as due, " + wrong + " are not");
        if (wrong != 0 || right == 0) System.exit(1);
    }

    static int afterDraws(int z, int draws) {
        for (int i = 0; i < draws; i++) z = z * 1103515245 + 12345;
        return z;
    }

    /** A z with which the draws' rests come out as wanted: by, rest, by, rest, .. */
    static int seedFor(int... byAndRest) {
        for (int v = 0; v < 200_000_000; v++) {
            int z = v;
            boolean fits = true;
            for (int i = 0; fits && i < byAndRest.length; i += 2) {
                z = afterDraws(z, 1);
                fits = (z >>> 8) % byAndRest[i] == byAndRest[i + 1];
            }
            if (fits) return v;
        }
        throw new IllegalStateException("no such seed");
    }

    /** So many speakers of the plain kind, ear 9, fame 10 and their number. */
    static EchoFolk plain(int many) {
        EchoFolk x = new EchoFolk();
        for (int i = 0; i < many; i++) x.speaker(0, 9, 10 + i);
        return x;
    }

    /** Brings a text's bytes to an empty tape. */
    static void feed(EchoFolk x, String text) {
        for (int i = 0; i < text.length(); i += 12) x.feed(number(text, i), number(text, i + 4), number(text, i + 8));
        x.trim(text.length());
    }

    static int text(EchoFolk x, String text) {
        feed(x, text);
        return x.text();
    }

    private static int number(String text, int from) {
        int v = 0;
        for (int i = from; i < from + 4; i++) v = v << 8 | (i < text.length() ? text.charAt(i) & 255 : 32);
        return v;
    }

    /** A sheet of shorts with these places. */
    static void shorts(EchoFolk x, int sheet, int... places) {
        x.sheet(sheet, 0, places.length);
        for (int i = 0; i < places.length; i++) x.mark(sheet, i, places[i]);
    }

    static void floats(EchoFolk x, int sheet, int... places) {
        x.sheet(sheet, 1, places.length);
        for (int i = 0; i < places.length; i++) x.mark(sheet, i, places[i]);
    }

    /** Speaks these words to a speaker, three at a time. */
    static void words(EchoFolk x, int speaker, int... words) {
        for (int i = 0; i < words.length; i += 3) {
            x.speaks(speaker, words[i], i + 1 < words.length ? words[i + 1] : -1, i + 2 < words.length ? words[i + 2] : -1);
        }
    }

    static int set(int... words) {
        int set = 0;
        for (int word : words) set |= 1 << word;
        return set;
    }
}
