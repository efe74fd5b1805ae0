import java.util.List;

/** Calls that are refused, or that only tell, change nothing: all that can be seen is looked at ahead of them and behind them. */
public final class UnchangedTest {
    private static final int BAD = -1000000001, NO = -1000000002, FULL = -1000000003, NONE = -1000000005;
    private static final int NOTHING = -1000000011, KIND = -1000000012, INDEX = -1000000013, SIZE = -1000000014;
    private static final Due due = new Due("UnchangedTest");
    private static final Whole.Act FULL_FOLK = UnchangedTest::fullFolk;
    private static final Whole.Act SMALL_FOLK = UnchangedTest::smallFolk;
    private static final Whole.Act NO_TAPE = x -> x.trim(0);
    private static final Whole.Act NONE_WAIT = x -> x.check(30);
    private static int calls = 0;

    public static void main(String[] args) {
        thingsAreSeen();
        refusedSpeakers();
        refusedDays();
        refusedSayings();
        refusedFuture();
        refusedTexts();
        refusedSheets();
        refusedSlots();
        refusedRows();
        refusedByTheTape();
        refusedByNumbersThatWait();
        thereIsNone();
        callsThatTell();
        due.end();
    }

    /** Three speakers, of whom one has no words and one has too many for what it keeps by now, and some of all else; an image. */
    private static int smallFolk(EchoFolk x) {
        x.seed(77);
        x.speaker(0, 9, 30);
        x.speaker(3, 4, 40);
        x.speaker(5, 1, 99);
        Due.words(x, 0, 1, 2, 3, 4, 5, 6, 7, 8);
        Due.words(x, 1, 9, 1, 2, 19);
        Due.text(x, "fee s*3+l");
        x.keep();
        Due.text(x, "keep 5+w/9");
        Due.text(x, "fine f-s");
        x.says(0, 1, 1);
        x.talk(60);
        x.days(7);
        Due.shorts(x, 0, 1, 2, 3, 20);
        Due.floats(x, 1, NONE, 5, 99999);
        x.sheet(2, 1, 0);
        x.lay(1, 1, 1);
        x.lay(2, 2, 1);
        x.lay(3, 3, -12345);
        Due.feed(x, "fee 7+l");
        x.tell(-1);
        x.tell(8);
        return 0;
    }

    /** Eight speakers, fourteen texts, a full tape, sixty numbers that wait, the last day; no image. */
    private static int fullFolk(EchoFolk x) {
        for (int i = 0; i < 100; i++) x.days(100);
        x.deal(8);
        for (int i = 0; i < 8; i++) x.speaks(i, i, i + 8, 19);
        for (int i = 0; i < 14; i++) Due.text(x, "fine " + i);
        Due.feed(x, "fine f                                                                                         .");
        for (int i = 0; i < 60; i++) x.tell(i);
        return 0;
    }

    private static int firstUnlike(List<Integer> one, List<Integer> other) {
        for (int i = 0; i < one.size(); i++) if (!one.get(i).equals(other.get(i))) return i;
        return NONE;
    }

    /** The call answers so, and all is as without it (but for what these acts would change). */
    private static void unchanged(Whole.Act folk, int want, Whole.Act call, Whole.Act... but) {
        calls++;
        EchoFolk x = new EchoFolk();
        folk.on(x);
        due.is("call " + calls, call.on(x), want);
        Whole.Act[] without = new Whole.Act[but.length + 1];
        Whole.Act[] with = new Whole.Act[but.length + 2];
        without[0] = folk;
        with[0] = folk;
        with[1] = call;
        System.arraycopy(but, 0, without, 1, but.length);
        System.arraycopy(but, 0, with, 2, but.length);
        due.is("call " + calls + " changes nothing", firstUnlike(Whole.after(without), Whole.after(with)), NONE);
    }

    private static void refused(int want, Whole.Act call) {
        unchanged(SMALL_FOLK, want, call);
    }

    private static void refusedByFull(int want, Whole.Act call) {
        unchanged(FULL_FOLK, want, call);
    }

    /** Each act that changes something is seen, so that the tests below can fail. */
    private static void thingsAreSeen() {
        due.term(0, "A call that is refused answers one of BAD, NO, FULL, or a FINDING,");
        Whole.Act[] changes = {x -> x.speaker(0, 1, 1), x -> x.turns(0, 1), x -> x.set(0, 1, 8), x -> x.set(0, 2, 8), x -> x.speaks(0, 1, 1, 1),
            x -> x.says(1, 0, 0), x -> x.forgets(0), x -> x.talk(61), x -> x.deal(1), x -> x.seed(5), x -> x.days(1), x -> x.feed(1, 2, 3),
            x -> x.trim(6), x -> x.text(), x -> x.sheet(0, 0, 5), x -> x.sheet(0, 0, 3), x -> x.sheet(3, 0, 0), x -> x.sheet(2, 0, 0), x -> x.sheet(0, -1, 0),
            x -> x.mark(0, 3, 19), x -> x.mark(1, 1, NONE), x -> x.pour(0), x -> x.copy(0, 0, 0, 1, 1), x -> x.lay(0, 3, 0), x -> x.lay(3, 3, 0),
            x -> x.lay(1, 0, 0), x -> x.lay(2, 2, 0), x -> x.tell(0), x -> x.check(1), x -> x.keep(), x -> x.back()};
        for (int i = 0; i < changes.length; i++) {
            boolean seen = firstUnlike(Whole.after(SMALL_FOLK), Whole.after(SMALL_FOLK, changes[i])) != NONE;
            due.is("change " + i + " is seen", seen ? 1 : 0, 1);
        }
    }

    private static void refusedSpeakers() {
        due.term(0, "of several the one that stands first with it, and changes nothing");
        refused(BAD, x -> x.speaker(6, 1, 1));
        refused(BAD, x -> x.speaker(0, 0, 1));
        refused(BAD, x -> x.speaker(0, 10, 1));
        refused(BAD, x -> x.speaker(0, 1, 100));
        refusedByFull(BAD, x -> x.speaker(0, 10, 1));
        refusedByFull(FULL, x -> x.speaker(0, 1, 1));
        refused(BAD, x -> x.told(3, 0));
        refused(BAD, x -> x.heard(0, 12));
        refused(BAD, x -> x.as(0, 6));
        refused(KIND, x -> x.as(0, 1));
        refused(BAD, x -> x.turns(0, 6));
        refused(BAD, x -> x.turns(3, 1));
        refused(BAD, x -> x.set(0, 1, 10));
        refused(BAD, x -> x.set(0, 2, -1));
        refused(BAD, x -> x.set(0, 3, 1));
        refused(BAD, x -> x.set(3, 1, 1));
        refused(BAD, x -> x.speaks(0, 20, 1, 1));
        refused(BAD, x -> x.speaks(0, 1, -2, 1));
        refused(BAD, x -> x.speaks(0, 1, 1, 20));
        refused(BAD, x -> x.speaks(3, 1, 1, 1));
        refused(BAD, x -> x.says(0, 0, 0));
        refused(BAD, x -> x.says(0, 3, 0));
        refused(BAD, x -> x.says(3, 0, 0));
        refused(BAD, x -> x.says(0, 1, 12));
        refused(BAD, x -> x.forgets(3));
        refused(BAD, x -> x.talk(101));
        refused(BAD, x -> x.talk(-1));
        refused(BAD, x -> x.deal(0));
        refused(BAD, x -> x.deal(9));
        refusedByFull(0, x -> x.deal(8));
    }

    private static void refusedDays() {
        due.term(0, "and changes nothing");
        refused(BAD, x -> x.days(0));
        refused(BAD, x -> x.days(101));
        refusedByFull(0, x -> x.days(100));
        refused(BAD, x -> x.folk(5));
    }

    private static void refusedSayings() {
        due.term(0, "or a FINDING, of several the one that stands first with it, and changes nothing");
        refused(BAD, x -> x.breaths(4, 0));
        refused(BAD, x -> x.breaths(3, 3));
        refused(NOTHING, x -> x.breaths(3, 0));
        refused(SIZE, x -> x.breaths(1, 0));
        refused(BAD, x -> x.wanting(4));
        refused(NOTHING, x -> x.wanting(3));
        refused(BAD, x -> x.who(4));
        refused(NOTHING, x -> x.who(3));
        refused(SIZE, x -> x.who(2));
        refused(BAD, x -> x.teacher(0, 0, 2));
        refused(BAD, x -> x.teacher(3, 3, 0));
        refused(NOTHING, x -> x.teacher(3, 0, 0));
        refused(SIZE, x -> x.teacher(1, 0, 0));
    }

    private static void refusedFuture() {
        due.term(0, "A call that is refused answers one of BAD");
        refused(BAD, x -> x.behind(101, 0));
        refused(BAD, x -> x.behind(1, 6));
        refused(BAD, x -> x.spreads(20));
        refused(BAD, x -> x.learns(3, 1));
        refused(BAD, x -> x.learns(0, 101));
        refused(BAD, x -> x.quiet(101, 0));
        refused(BAD, x -> x.quiet(1, 2));
        refused(BAD, x -> x.ears(3, 1, 0));
        refused(BAD, x -> x.ears(0, 61, 0));
        refused(BAD, x -> x.ears(0, 1, 2));
        refused(BAD, x -> x.fine(3));
    }

    private static void refusedTexts() {
        due.term(0, "one of BAD, NO, FULL,");
        refusedByFull(FULL, x -> x.feed(1, 2, 3));
        refused(BAD, x -> x.trim(8));
        refused(BAD, x -> x.trim(-1));
        refused(BAD, x -> x.textTold(3, 0));
        refused(BAD, x -> x.textTold(0, 2));
        refused(BAD, x -> x.why(3));
    }

    private static void refusedSheets() {
        due.term(0, "a FINDING, of several the one that stands first with it, and changes nothing");
        refused(BAD, x -> x.sheet(4, 0, 1));
        refused(BAD, x -> x.sheet(0, 2, 1));
        refused(BAD, x -> x.sheet(0, 0, 25));
        refused(SIZE, x -> x.sheet(0, 0, -1));
        refused(SIZE, x -> x.sheet(3, 1, -1));
        refused(BAD, x -> x.mark(4, 0, 0));
        refused(NOTHING, x -> x.mark(3, 0, 0));
        refused(INDEX, x -> x.mark(0, 4, 0));
        refused(INDEX, x -> x.mark(2, 0, 0));
        refused(KIND, x -> x.mark(0, 3, NONE));
        refused(BAD, x -> x.mark(1, 1, 100000));
        refused(BAD, x -> x.pour(4));
        refused(NOTHING, x -> x.pour(3));
        refused(BAD, x -> x.reads(4));
        refused(NOTHING, x -> x.reads(3));
        refused(BAD, x -> x.copy(4, 0, 0, 0, 1));
        refused(NOTHING, x -> x.copy(0, 0, 3, 0, 1));
        refused(KIND, x -> x.copy(0, 0, 1, 0, 1));
        refused(INDEX, x -> x.copy(0, 2, 0, 0, 3));
        refused(INDEX, x -> x.copy(0, 0, 0, 2, 3));
        refused(INDEX, x -> x.copy(0, 0, 0, 1, -1));
    }

    private static void refusedSlots() {
        due.term(0, "NO, FULL, or a FINDING");
        refused(BAD, x -> x.lay(5, 0, 0));
        refused(BAD, x -> x.lay(1, 4, 0));
        refused(BAD, x -> x.lay(1, 1, 3));
        refused(BAD, x -> x.lay(1, 2, 4));
        refused(NOTHING, x -> x.lay(1, 2, 3));
        refused(BAD, x -> x.ask(5, 0));
        refused(NOTHING, x -> x.ask(0, 0));
        refused(KIND, x -> x.ask(1, 2));
        refused(KIND, x -> x.ask(2, 0));
        refused(BAD, x -> x.item(5, 0));
        refused(NOTHING, x -> x.item(0, 0));
        refused(KIND, x -> x.item(1, 0));
        refused(INDEX, x -> x.item(2, 3));
        refused(KIND, x -> x.item(2, 0));
        refused(BAD, x -> x.rest(5, 1));
        refused(NOTHING, x -> x.rest(0, 1));
        refused(KIND, x -> x.rest(1, 1));
        refused(NO, x -> x.rest(3, 0));
    }

    private static void refusedRows() {
        due.term(0, "BAD, NO, FULL");
        refusedByFull(FULL, x -> x.tell(1));
        refusedByFull(NO, x -> x.back());
        refused(BAD, x -> x.count(7));
    }

    private static void refusedByTheTape() {
        due.term(0, "(but the tape and the numbers that wait, where told).");
        unchanged(x -> { smallFolk(x); x.trim(0); Due.feed(x, "fee 7+x"); return 0; }, -106, x -> x.text(), NO_TAPE);
        unchanged(x -> { smallFolk(x); x.trim(0); Due.feed(x, "keep"); return 0; }, -104, x -> x.text(), NO_TAPE);
        unchanged(x -> { fullFolk(x); x.trim(6); return 0; }, FULL, x -> x.text(), NO_TAPE);
        unchanged(FULL_FOLK, -195, x -> x.text(), NO_TAPE);
        unchanged(x -> { smallFolk(x); x.trim(0); return 0; }, -100, x -> x.text());
    }

    private static void refusedByNumbersThatWait() {
        due.term(0, "the numbers that wait, where told).");
        unchanged(SMALL_FOLK, BAD, x -> x.check(0), NONE_WAIT);
        unchanged(SMALL_FOLK, BAD, x -> x.check(31), NONE_WAIT);
        unchanged(SMALL_FOLK, 1, x -> x.check(30), NONE_WAIT);
        unchanged(FULL_FOLK, NO, x -> x.check(1), NONE_WAIT);
        unchanged(FULL_FOLK, BAD, x -> x.check(0), NONE_WAIT);
    }

    private static void thereIsNone() {
        due.term(0, "NONE: there is none.");
        refused(NONE, x -> x.heard(2, 0));
        refused(NONE, x -> x.says(2, 0, 0));
        refused(NONE, x -> x.says(0, 1, 11));
        refused(NONE, x -> x.breaths(0, 2));
        refused(NONE, x -> x.teacher(0, 2, 0));
        refused(NONE, x -> x.spreads(18));
        refused(NONE, x -> x.learns(2, 1));
        refusedByFull(NONE, x -> x.why(0));
        refused(NONE, x -> x.reads(2));
        refused(NONE, x -> x.wanting(2));
        unchanged(x -> x.talk(7), NONE, x -> x.quiet(1, 0));
    }

    private static void callsThatTell() {
        due.term(3, "z as it is, without the bound of THE DAY: nothing changes.)");
        int[] by = {1, 7, 60};
        for (int n : by) {
            for (int i = 0; i < 6; i++) {
                int what = i;
                tells(x -> x.behind(n, what));
            }
            for (int i = 0; i < 3; i++) {
                int speaker = i;
                tells(x -> x.learns(speaker, n));
                tells(x -> x.ears(speaker, n, 0));
                tells(x -> x.ears(speaker, n, 1));
            }
            tells(x -> x.quiet(n, 0));
            tells(x -> x.quiet(n, 1));
        }
        tells(x -> x.spreads(1));
        tells(x -> x.breaths(0, 0));
        tells(x -> x.who(0));
        tells(x -> x.wanting(0));
        tells(x -> x.teacher(0, 1, 0));
        tells(x -> x.teacher(0, 0, 1));
        tells(x -> x.reads(0));
        tells(x -> x.fee());
        tells(x -> x.told(1, 6));
        tells(x -> x.heard(1, 0));
        tells(x -> x.as(1, 1));
        tells(x -> x.folk(3));
        tells(x -> x.fine(0));
        tells(x -> x.textTold(2, 1));
        tells(x -> x.why(2));
        tells(x -> x.ask(1, 1));
        tells(x -> x.item(2, 1));
        tells(x -> x.rest(3, 7));
        tells(x -> x.count(6));
    }

    private static void tells(Whole.Act call) {
        EchoFolk x = new EchoFolk();
        smallFolk(x);
        int first = call.on(x);
        due.is("it tells the same again", call.on(x), first);
        unchanged(SMALL_FOLK, first, call);
        unchanged(x2 -> { smallFolk(x2); x2.days(1); return 0; }, tellsBehindADay(call), call);
    }

    private static int tellsBehindADay(Whole.Act call) {
        EchoFolk x = new EchoFolk();
        smallFolk(x);
        x.days(1);
        return call.on(x);
    }
}
