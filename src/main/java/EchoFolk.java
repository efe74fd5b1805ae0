/** A folk who have no words but such as somebody once spoke to them. README.md says how to use it. */
public final class EchoFolk {
    public static final int BAD = -1000000001, NO = -1000000002, FULL = -1000000003, NONE = -1000000005, NOTHING = -1000000011, KIND = -1000000012, INDEX = -1000000013, SIZE = -1000000014;

    private static final int SPEAKER = 0, CHILD = 1, ELDER = 2, LOVER = 3, LIAR = 4, DEAF = 5, KINDS = 6;
    private static final int KEEP = 0, FEE = 1, FINE = 2, KEYS = 3;
    private static final int SHORTS = 0, FLOATS = 1, MISSING = -1;
    private static final int EMPTY = 0, HOLDS_SPEAKER = 1, HOLDS_SHEET = 2, HOLDS_NUMBER = 3;

    private static final int WORDS = 20, MOST_SPEAKERS = 8, MOST_HEARD = 12, MOST_TEXTS = 14, MOST_BYTES = 96;
    private static final int MOST_EAR = 9, MOST_FAME = 99, MOST_TALK = 100, LAST_DAY = 9999;
    private static final int MOST_SHEETS = 4, MOST_PLACES = 24, MOST_SLOTS = 5, MOST_WAITING = 60;
    private static final int MOST_DAYS = 100, DAYS_TO_SPREAD = 200, DAYS_OF_EARS = 60, DAYS_TO_CHECK = 30;
    private static final int MOST_IN_FLOATS = 99999;

    private final Laws laws;
    private final Folk now;
    private final Folk image;
    /** Where what would be is tried out, so that nothing changes. */
    private final Folk trial;
    private boolean imageKept;
    private final Tape tape;
    private final Parser parser;
    private final Sheet[] sheets;
    private final Slot[] slots;
    private final Saying saying;
    private final int[] fromWithout;
    private final int[] waiting;
    private int waits;

    public EchoFolk() {
        laws = new Laws();
        now = new Folk(laws);
        image = new Folk(laws);
        trial = new Folk(laws);
        tape = new Tape();
        parser = new Parser(tape);
        sheets = new Sheet[MOST_SHEETS];
        for (int i = 0; i < sheets.length; i++) sheets[i] = new Sheet();
        slots = new Slot[MOST_SLOTS];
        for (int i = 0; i < slots.length; i++) slots[i] = new Slot();
        saying = new Saying();
        fromWithout = new int[3];
        waiting = new int[MOST_WAITING];
    }

    // ---- speakers, words

    public int speaker(int kind, int ear, int fame) {
        if (!isKind(kind) || !isEar(ear) || !isFame(fame)) return BAD;
        if (!now.hasRoom()) return FULL;
        now.enter(kind, ear, fame);
        return now.many - 1;
    }

    public int told(int speaker, int what) {
        if (!now.hasSpeaker(speaker)) return BAD;
        Speaker one = now.speakers[speaker];
        switch (what) {
            case 0: return one.kind;
            case 1: return one.ear;
            case 2: return one.fame;
            case 3: return one.said;
            case 4: return one.many;
            case 5: return one.wordSet();
            case 6: return now.keepsOf(one, one.many);
            case 7: return Kinds.takesOf(one.kind, one.ear);
            case 8: return Kinds.goesOf(one.kind);
            case 9: return Kinds.worthOf(one.kind, one.fame);
            default: return BAD;
        }
    }

    public int heard(int speaker, int k) {
        if (!now.hasSpeaker(speaker) || !isHeardPlace(k)) return BAD;
        return now.speakers[speaker].wordAt(k);
    }

    public int as(int speaker, int kind) {
        if (!now.hasSpeaker(speaker) || !isKind(kind)) return BAD;
        Speaker one = now.speakers[speaker];
        return Kinds.isOf(one.kind, kind) ? one.fame : KIND;
    }

    public int turns(int speaker, int kind) {
        if (!now.hasSpeaker(speaker) || !isKind(kind)) return BAD;
        Speaker one = now.speakers[speaker];
        int was = one.kind;
        one.kind = kind;
        return was;
    }

    public int set(int speaker, int what, int v) {
        if (!now.hasSpeaker(speaker)) return BAD;
        Speaker one = now.speakers[speaker];
        if (what == 1 && isEar(v)) {
            int was = one.ear;
            one.ear = v;
            return was;
        }
        if (what == 2 && isFame(v)) {
            int was = one.fame;
            one.fame = v;
            return was;
        }
        return BAD;
    }

    public int speaks(int speaker, int a, int b, int c) {
        if (!now.hasSpeaker(speaker)) return BAD;
        if (!isWordOrNone(a) || !isWordOrNone(b) || !isWordOrNone(c)) return BAD;
        int many = putFromWithout(0, a);
        many = putFromWithout(many, b);
        many = putFromWithout(many, c);
        Speaker one = now.speakers[speaker];
        now.hears(one, fromWithout, 0, many);
        return one.many;
    }

    public int says(int speaker, int other, int k) {
        if (!now.hasSpeaker(speaker) || !now.hasSpeaker(other) || speaker == other || !isHeardPlace(k)) return BAD;
        Speaker one = now.speakers[speaker];
        if (k >= one.many) return NONE;
        return now.speakTo(one, now.speakers[other], k);
    }

    public int forgets(int speaker) {
        if (!now.hasSpeaker(speaker)) return BAD;
        Speaker one = now.speakers[speaker];
        int many = one.many;
        one.forgetOldest(many);
        now.lost += many;
        return many;
    }

    public int talk(int v) {
        if (v < 0 || v > MOST_TALK) return BAD;
        int was = now.talk;
        now.talk = v;
        return was;
    }

    public int deal(int n) {
        if (n < 1 || n > MOST_SPEAKERS) return BAD;
        int came = 0;
        for (int i = 0; i < n && now.hasRoom(); i++) {
            now.enterByLot();
            came++;
        }
        return came;
    }

    public int seed(int v) {
        int was = now.z;
        now.z = v;
        return was;
    }

    // ---- days

    public int days(int n) {
        if (!isDays(n, 1, MOST_DAYS)) return BAD;
        int before = now.spoken;
        for (int i = 0; i < n && now.day < LAST_DAY; i++) now.passDay();
        return now.spoken - before;
    }

    public int folk(int what) {
        switch (what) {
            case 0: return now.spoken;
            case 1: return now.lost;
            case 2: return now.wordsTogether();
            case 3: return now.wordsOfSomebody();
            case 4: return now.wordsOfAll();
            default: return BAD;
        }
    }

    // ---- sayings

    public int breaths(int sheet, int speaker) {
        if (!isSheet(sheet) || !now.hasSpeaker(speaker)) return BAD;
        int finding = readSaying(sheet);
        if (finding != 0) return finding;
        return saying.breathsOf(now.speakers[speaker]);
    }

    public int wanting(int sheet) {
        if (!isSheet(sheet)) return BAD;
        if (readSaying(sheet) == NOTHING) return NOTHING;
        return saying.firstOutside(now.wordsOfSomebody());
    }

    public int who(int sheet) {
        if (!isSheet(sheet)) return BAD;
        int finding = readSaying(sheet);
        if (finding != 0) return finding;
        int able = 0;
        for (int i = 0; i < now.many; i++) {
            if (saying.breathsOf(now.speakers[i]) != NONE) able |= 1 << i;
        }
        return able;
    }

    public int teacher(int sheet, int speaker, int what) {
        if (!isSheet(sheet) || !now.hasSpeaker(speaker) || !isZeroOrOne(what)) return BAD;
        int finding = readSaying(sheet);
        if (finding != 0) return finding;
        int best = NONE;
        int fewest = NONE;
        trial.become(now);
        for (int i = 0; i < now.many; i++) {
            int breaths = i == speaker ? NONE : breathsTaught(speaker, i);
            if (breaths != NONE && (best == NONE || breaths < fewest)) {
                best = i;
                fewest = breaths;
            }
        }
        return what == 0 ? best : fewest;
    }

    // ---- what will be

    public int behind(int n, int what) {
        if (!isDays(n, 0, MOST_DAYS) || what < 0) return BAD;
        if (what > 2 && !now.hasSpeaker(what - 3)) return BAD;
        trial.become(now);
        for (int i = 0; i < n; i++) trial.passDay();
        switch (what) {
            case 0: return trial.spoken;
            case 1: return trial.lost;
            case 2: return trial.wordsTogether();
            default: return trial.speakers[what - 3].wordSet();
        }
    }

    public int spreads(int word) {
        if (!isWord(word)) return BAD;
        trial.become(now);
        for (int i = 0; i < DAYS_TO_SPREAD; i++) {
            if (trial.allButDeafHave(word)) return i;
            trial.passDay();
        }
        return trial.allButDeafHave(word) ? DAYS_TO_SPREAD : NONE;
    }

    public int learns(int speaker, int n) {
        if (!now.hasSpeaker(speaker) || !isDays(n, 1, MOST_DAYS)) return BAD;
        trial.become(now);
        for (int i = 0; i < n; i++) trial.passDay();
        int learnt = trial.speakers[speaker].wordSet() & ~now.speakers[speaker].wordSet();
        for (int word = 0; word < WORDS; word++) {
            if ((learnt >>> word & 1) == 1) return word;
        }
        return NONE;
    }

    public int quiet(int n, int what) {
        if (!isDays(n, 1, MOST_DAYS) || !isZeroOrOne(what)) return BAD;
        int best = NONE;
        int least = NONE;
        for (int i = 0; i < now.many; i++) {
            int spoken = spokenWithout(i, n);
            if (best == NONE || spoken < least) {
                best = i;
                least = spoken;
            }
        }
        return what == 0 ? best : least;
    }

    public int ears(int speaker, int n, int what) {
        if (!now.hasSpeaker(speaker) || !isDays(n, 1, DAYS_OF_EARS) || !isZeroOrOne(what)) return BAD;
        int best = 1;
        int most = -1;
        for (int ear = 1; ear <= MOST_EAR; ear++) {
            int unlike = unlikeWithEar(speaker, ear, n);
            if (unlike > most) {
                best = ear;
                most = unlike;
            }
        }
        return what == 0 ? best : most;
    }

    public int fee() {
        int law = now.lawOf(FEE);
        return law == NONE ? now.spoken : laws.valueOf(law, now.spoken, now.lost, 0);
    }

    public int fine(int speaker) {
        if (!now.hasSpeaker(speaker)) return BAD;
        Speaker one = now.speakers[speaker];
        int law = now.lawOf(FINE);
        return law == NONE ? one.said : laws.valueOf(law, one.said, one.fame, 0);
    }

    // ---- texts

    public int feed(int a, int b, int c) {
        if (tape.size + 12 > MOST_BYTES) return FULL;
        tape.putNumber(a);
        tape.putNumber(b);
        tape.putNumber(c);
        return tape.size;
    }

    public int trim(int n) {
        if (n < 0 || n > tape.size) return BAD;
        tape.size = n;
        return n;
    }

    public int text() {
        int number = now.texts;
        // the row behind the last text is free, so a text can be read before it is known to be one
        Text text = laws.texts[number >= 0 && number < MOST_TEXTS ? number : MOST_TEXTS];
        int fault = parser.parse(text);
        tape.size = 0;
        if (fault != NONE) return -100 - fault;
        if (number >= MOST_TEXTS) return FULL;
        now.takeLaw(text.key);
        return number;
    }

    public int textTold(int text, int what) {
        if (text < 0 || text >= now.texts || text >= laws.texts.length || !isZeroOrOne(what)) return BAD;
        return what == 0 ? laws.texts[text].key : laws.texts[text].leaves;
    }

    public int why(int key) {
        return key < 0 || key >= KEYS ? BAD : now.lawOf(key);
    }

    // ---- sheets, slots

    public int sheet(int sheet, int sort, int n) {
        if (!isSheet(sheet) || sort < MISSING || sort > FLOATS) return BAD;
        if (sort == MISSING) {
            sheets[sheet].begin(MISSING, 0);
            return 0;
        }
        if (n > MOST_PLACES) return BAD;
        if (n < 0) return SIZE;
        sheets[sheet].begin(sort, n);
        return n;
    }

    public int mark(int sheet, int place, int v) {
        if (!isSheet(sheet)) return BAD;
        Sheet row = sheets[sheet];
        if (row.sort == MISSING) return NOTHING;
        if (!row.hasPlace(place)) return INDEX;
        if (row.sort == SHORTS) {
            if (v == NONE) return KIND;
            row.places[place] = (short) v;
            return 1;
        }
        if (v != NONE && (v < -MOST_IN_FLOATS || v > MOST_IN_FLOATS)) return BAD;
        row.places[place] = v;
        return 1;
    }

    public int pour(int sheet) {
        if (!isSheet(sheet)) return BAD;
        Sheet row = sheets[sheet];
        if (row.sort == MISSING) return NOTHING;
        int otherwise = 0;
        for (int i = 0; i < now.many && row.hasPlace(i); i++) {
            if (row.places[i] == NONE) continue;
            int fame = held(row.places[i], 0, MOST_FAME);
            if (fame != now.speakers[i].fame) otherwise++;
            now.speakers[i].fame = fame;
        }
        return otherwise;
    }

    public int reads(int sheet) {
        if (!isSheet(sheet)) return BAD;
        Sheet row = sheets[sheet];
        if (row.sort == MISSING) return NOTHING;
        for (int i = 0; i < MOST_PLACES && row.hasPlace(i); i++) {
            if (row.places[i] == NONE) continue;
            if (!now.hasSpeaker(i) || row.places[i] != now.speakers[i].many) return i;
        }
        return NONE;
    }

    public int copy(int from, int place, int to, int at, int many) {
        if (!isSheet(from) || !isSheet(to)) return BAD;
        Sheet source = sheets[from];
        Sheet target = sheets[to];
        if (source.sort == MISSING || target.sort == MISSING) return NOTHING;
        if (source.sort != target.sort) return KIND;
        if (!source.hasPlaces(place, many) || !target.hasPlaces(at, many)) return INDEX;
        System.arraycopy(source.places, place, target.places, at, many);
        return many;
    }

    public int lay(int slot, int thing, int k) {
        if (!isSlot(slot) || thing < EMPTY || thing > HOLDS_NUMBER) return BAD;
        if (thing == HOLDS_SPEAKER && !now.hasSpeaker(k)) return BAD;
        if (thing == HOLDS_SHEET && !isSheet(k)) return BAD;
        if (thing == HOLDS_SHEET && sheets[k].sort == MISSING) return NOTHING;
        Slot place = slots[slot];
        int was = place.thing;
        place.thing = thing;
        if (thing == HOLDS_SPEAKER) place.holdSpeaker(now.speakers[k]);
        if (thing == HOLDS_SHEET) place.row.become(sheets[k]);
        if (thing == HOLDS_NUMBER) place.number = k;
        return was;
    }

    public int ask(int slot, int kind) {
        if (!isSlot(slot) || !isKind(kind)) return BAD;
        Slot place = slots[slot];
        if (place.thing == EMPTY) return NOTHING;
        if (place.thing != HOLDS_SPEAKER || !Kinds.isOf(place.kind, kind)) return KIND;
        return Kinds.worthOf(place.kind, place.fame);
    }

    public int item(int slot, int place) {
        if (!isSlot(slot)) return BAD;
        if (slots[slot].thing == EMPTY) return NOTHING;
        if (slots[slot].thing != HOLDS_SHEET) return KIND;
        Sheet row = slots[slot].row;
        if (!row.hasPlace(place)) return INDEX;
        return row.places[place] == NONE ? KIND : row.places[place];
    }

    public int rest(int slot, int n) {
        if (!isSlot(slot)) return BAD;
        if (slots[slot].thing == EMPTY) return NOTHING;
        if (slots[slot].thing != HOLDS_NUMBER) return KIND;
        return n == 0 ? NO : slots[slot].number % n;
    }

    // ---- rows, images

    public int tell(int v) {
        if (waits < 0 || waits >= waiting.length) return FULL;
        waiting[waits] = v;
        waits++;
        return waits;
    }

    public int check(int n) {
        int told = waits;
        waits = 0;
        if (!isDays(n, 1, DAYS_TO_CHECK)) return BAD;
        if (!imageKept) return NO;
        trial.become(image);
        int right = 0;
        for (int i = 0; i < n && trial.day < LAST_DAY; i++) {
            trial.passDay();
            if (!isTold(right, told, trial.spoken)) return 1 + right;
            right++;
            if (!isTold(right, told, trial.wordsTogether())) return 1 + right;
            right++;
        }
        return right < told ? 1 + right : 0;
    }

    public int keep() {
        image.become(now);
        imageKept = true;
        return image.many;
    }

    public int back() {
        if (!imageKept) return NO;
        now.become(image);
        return now.many;
    }

    public int count(int what) {
        switch (what) {
            case 0: return now.many;
            case 1: return now.day;
            case 2: return now.talk;
            case 3: return now.texts;
            case 4: return waits;
            case 5: return tape.size;
            case 6: return now.z;
            default: return BAD;
        }
    }

    // ---- what the calls share

    private static boolean isKind(int kind) {
        return kind >= 0 && kind < KINDS;
    }

    private static boolean isEar(int v) {
        return v >= 1 && v <= MOST_EAR;
    }

    private static boolean isFame(int v) {
        return v >= 0 && v <= MOST_FAME;
    }

    private static boolean isWord(int v) {
        return v >= 0 && v < WORDS;
    }

    private static boolean isWordOrNone(int v) {
        return v == -1 || isWord(v);
    }

    private static boolean isHeardPlace(int k) {
        return k >= 0 && k < MOST_HEARD;
    }

    private static boolean isZeroOrOne(int what) {
        return what == 0 || what == 1;
    }

    private static boolean isDays(int n, int least, int most) {
        return n >= least && n <= most;
    }

    private static boolean isSheet(int sheet) {
        return sheet >= 0 && sheet < MOST_SHEETS;
    }

    private static boolean isSlot(int slot) {
        return slot >= 0 && slot < MOST_SLOTS;
    }

    private static int held(int v, int least, int most) {
        return Math.max(least, Math.min(most, v));
    }

    private int putFromWithout(int many, int word) {
        if (!isWord(word) || many < 0 || many >= fromWithout.length) return many;
        fromWithout[many] = word;
        return many + 1;
    }

    /** Lays the saying by a sheet ready: 0, or the finding for which it is none. */
    private int readSaying(int sheet) {
        if (!isSheet(sheet) || sheets[sheet].sort == MISSING) return NOTHING;
        saying.read(sheets[sheet]);
        return saying.many == 0 ? SIZE : 0;
    }

    private int breathsTaught(int speaker, int other) {
        Speaker pupil = trial.speakers[speaker];
        Speaker teacher = now.speakers[other];
        pupil.become(now.speakers[speaker]);
        trial.hears(pupil, teacher.words, 0, teacher.many);
        return saying.breathsOf(pupil);
    }

    private int spokenWithout(int speaker, int n) {
        trial.become(now);
        Speaker silent = trial.speakers[speaker];
        silent.forgetOldest(silent.many);
        for (int i = 0; i < n; i++) trial.passDay();
        return trial.spoken;
    }

    private int unlikeWithEar(int speaker, int ear, int n) {
        trial.become(now);
        trial.speakers[speaker].ear = ear;
        for (int i = 0; i < n; i++) trial.passDay();
        return Integer.bitCount(trial.speakers[speaker].wordSet());
    }

    private boolean isTold(int place, int told, int v) {
        return place >= 0 && place < told && place < waiting.length && waiting[place] == v;
    }

    /** What the kinds do: each as the one above it, where it does not do otherwise. */
    private static final class Kinds {
        private static final int[] ABOVE = {-1, SPEAKER, SPEAKER, CHILD, ELDER, SPEAKER};

        static boolean isOf(int kind, int wanted) {
            int at = kind;
            for (int i = 0; i < KINDS && at >= 0 && at < ABOVE.length; i++) {
                if (at == wanted) return true;
                at = ABOVE[at];
            }
            return false;
        }

        static int keepsOf(int kind, int asSpeaker) {
            switch (kind) {
                case CHILD: return asSpeaker / 2;
                case LOVER: return asSpeaker / 2 + 3;
                case ELDER:
                case LIAR: return Math.max(0, asSpeaker - 2);
                case DEAF: return 0;
                default: return asSpeaker;
            }
        }

        static int takesOf(int kind, int ear) {
            switch (kind) {
                case CHILD:
                case LOVER: return ear + 2;
                case ELDER: return ear / 2;
                case LIAR: return ear / 2 + 1;
                case DEAF: return 0;
                default: return ear;
            }
        }

        static int goesOf(int kind) {
            switch (kind) {
                case CHILD: return 2;
                case LOVER: return 4;
                case ELDER: return 4;
                case LIAR: return 9;
                default: return 3;
            }
        }

        static int worthOf(int kind, int fame) {
            switch (kind) {
                case CHILD: return fame + 6;
                case LOVER: return 2 * (fame + 6);
                case ELDER: return 99 - fame;
                case LIAR: return 91 - fame;
                case DEAF: return 1;
                default: return fame;
            }
        }
    }

    private static final class Speaker {
        int kind;
        int ear;
        int fame;
        int said;
        int many;
        /** Twice as long as a heard row may be, since what is heard comes ahead of what is forgotten for it. */
        final int[] words;

        Speaker() {
            words = new int[2 * MOST_HEARD];
        }

        void begin(int itsKind, int itsEar, int itsFame) {
            kind = itsKind;
            ear = itsEar;
            fame = itsFame;
            said = 0;
            many = 0;
        }

        void become(Speaker other) {
            kind = other.kind;
            ear = other.ear;
            fame = other.fame;
            said = other.said;
            many = other.many;
            for (int i = 0; i < many && i < words.length; i++) words[i] = other.words[i];
        }

        int wordAt(int k) {
            return k >= 0 && k < many && k < words.length ? words[k] : NONE;
        }

        int wordSet() {
            int set = 0;
            for (int i = 0; i < many && i < words.length; i++) set |= 1 << words[i];
            return set;
        }

        void putBehind(int[] row, int from, int manyMore) {
            for (int i = 0; i < manyMore; i++) {
                int at = from + i;
                if (at < 0 || at >= row.length || many < 0 || many >= words.length) return;
                words[many] = row[at];
                many++;
            }
        }

        void forgetOldest(int n) {
            if (n < 1 || n > many) return;
            many -= n;
            for (int i = 0; i < many && i + n < words.length; i++) words[i] = words[i + n];
        }
    }

    /** All that an image keeps. */
    private static final class Folk {
        final Laws laws;
        final Speaker[] speakers;
        int many;
        int talk;
        int spoken;
        int lost;
        int day;
        int z;
        int texts;
        /** By key the text that counts. */
        final int[] lawByKey;

        Folk(Laws itsLaws) {
            laws = itsLaws;
            speakers = new Speaker[MOST_SPEAKERS];
            for (int i = 0; i < speakers.length; i++) speakers[i] = new Speaker();
            talk = 50;
            z = 1;
            lawByKey = new int[KEYS];
            for (int i = 0; i < lawByKey.length; i++) lawByKey[i] = NONE;
        }

        void become(Folk other) {
            many = other.many;
            for (int i = 0; i < many && i < speakers.length; i++) speakers[i].become(other.speakers[i]);
            talk = other.talk;
            spoken = other.spoken;
            lost = other.lost;
            day = other.day;
            z = other.z;
            texts = other.texts;
            for (int i = 0; i < lawByKey.length; i++) lawByKey[i] = other.lawByKey[i];
        }

        boolean hasSpeaker(int i) {
            return i >= 0 && i < many && i < speakers.length;
        }

        boolean hasRoom() {
            return many >= 0 && many < speakers.length;
        }

        void enter(int kind, int ear, int fame) {
            if (!hasRoom()) return;
            speakers[many].begin(kind, ear, fame);
            many++;
        }

        void enterByLot() {
            int kind = drawBelow(KINDS);
            int ear = 1 + drawBelow(MOST_EAR);
            int fame = drawBelow(MOST_FAME + 1);
            enter(kind, ear, fame);
        }

        int drawBelow(int n) {
            z = z * 1103515245 + 12345;
            return n > 0 ? (z >>> 8) % n : 0;
        }

        int lawOf(int key) {
            return key >= 0 && key < lawByKey.length ? lawByKey[key] : NONE;
        }

        void takeLaw(int key) {
            if (key < 0 || key >= lawByKey.length) return;
            lawByKey[key] = texts;
            texts++;
        }

        /** KEEPS, if it has so many words. */
        int keepsOf(Speaker one, int words) {
            int law = lawOf(KEEP);
            int given = law == NONE ? MOST_HEARD : laws.valueOf(law, one.ear, one.fame, words);
            return Kinds.keepsOf(one.kind, held(given, 0, MOST_HEARD));
        }

        void hears(Speaker one, int[] row, int from, int manySpoken) {
            one.putBehind(row, from, Math.min(manySpoken, Kinds.takesOf(one.kind, one.ear)));
            int left = one.many;
            for (int i = 0; i < one.words.length && left > keepsOf(one, left); i++) left--;
            lost += one.many - left;
            one.forgetOldest(one.many - left);
        }

        /** Speaks from place k on: how many words. */
        int speakTo(Speaker one, Speaker other, int k) {
            int piece = Math.min(Kinds.goesOf(one.kind), one.many - k);
            hears(other, one.words, k, piece);
            one.said += piece;
            spoken++;
            return piece;
        }

        void passDay() {
            boolean lesson = drawBelow(100) < talk && many >= 2;
            day++;
            if (!lesson) return;
            int first = drawBelow(many);
            int second = drawBelow(many - 1);
            if (second >= first) second++;
            if (!hasSpeaker(first) || !hasSpeaker(second)) return;
            Speaker one = speakers[first];
            if (one.many > 0) speakTo(one, speakers[second], drawBelow(one.many));
        }

        int wordsTogether() {
            int sum = 0;
            for (int i = 0; i < many && i < speakers.length; i++) sum += speakers[i].many;
            return sum;
        }

        int wordsOfSomebody() {
            int set = 0;
            for (int i = 0; i < many && i < speakers.length; i++) set |= speakers[i].wordSet();
            return set;
        }

        int wordsOfAll() {
            if (many == 0) return 0;
            int set = (1 << WORDS) - 1;
            for (int i = 0; i < many && i < speakers.length; i++) set &= speakers[i].wordSet();
            return set;
        }

        boolean allButDeafHave(int word) {
            for (int i = 0; i < many && i < speakers.length; i++) {
                boolean has = (speakers[i].wordSet() >>> word & 1) == 1;
                if (speakers[i].kind != DEAF && !has) return false;
            }
            return true;
        }
    }

    private static final class Saying {
        final int[] words;
        int many;

        Saying() {
            words = new int[MOST_HEARD];
        }

        void read(Sheet sheet) {
            many = 0;
            for (int i = 0; i < words.length && sheet.hasPlace(i) && isWord(sheet.places[i]); i++) {
                words[i] = sheet.places[i];
                many++;
            }
        }

        int firstOutside(int set) {
            for (int i = 0; i < many && i < words.length; i++) {
                if ((set >>> words[i] & 1) == 0) return words[i];
            }
            return NONE;
        }

        /** Takes the longest piece each time: a part of a piece is a piece as well, so a shorter one never gets further. */
        int breathsOf(Speaker one) {
            int goes = Kinds.goesOf(one.kind);
            int breaths = 0;
            int at = 0;
            for (int i = 0; i < words.length && at < many; i++) {
                int piece = longestPiece(one, at, goes);
                if (piece == 0) return NONE;
                at += piece;
                breaths++;
            }
            return breaths;
        }

        private int longestPiece(Speaker one, int at, int goes) {
            int longest = 0;
            for (int k = 0; k < one.many; k++) longest = Math.max(longest, sameWords(one, at, k));
            return Math.min(longest, goes);
        }

        /** How many words are the same, from a place of the saying and a place of what one heard on. */
        private int sameWords(Speaker one, int at, int k) {
            int same = 0;
            for (int i = 0; i < words.length; i++) {
                int here = at + i;
                if (here < 0 || here >= many || here >= words.length) break;
                if (words[here] != one.wordAt(k + i)) break;
                same++;
            }
            return same;
        }
    }

    /** A text as a row for a stack: a number, -1 less a name's place among its key's, or the negative of a sign. */
    private static final class Text {
        int key;
        int leaves;
        int size;
        final int[] code;

        Text() {
            code = new int[MOST_BYTES];
        }

        void begin() {
            key = KEEP;
            leaves = 0;
            size = 0;
        }

        void put(int step) {
            if (size < 0 || size >= code.length) return;
            code[size] = step;
            size++;
        }
    }

    /** All texts; images share them, since a text that is within an image's number of texts never changes. */
    private static final class Laws {
        final Text[] texts;
        private final int[] stack;

        Laws() {
            texts = new Text[MOST_TEXTS + 1];
            for (int i = 0; i < texts.length; i++) texts[i] = new Text();
            stack = new int[MOST_BYTES];
        }

        /** What a text gives for the values of its key's names. */
        int valueOf(int number, int first, int second, int third) {
            if (number < 0 || number >= texts.length) return 0;
            Text text = texts[number];
            int top = -1;
            for (int i = 0; i < text.size && i < text.code.length; i++) {
                int step = text.code[i];
                if (step >= -3) {
                    top++;
                    if (top >= stack.length) return 0;
                    stack[top] = leafOf(step, first, second, third);
                } else if (step == -'!') {
                    if (top < 0) return 0;
                    stack[top] = truth(stack[top] == 0);
                } else {
                    if (top < 1) return 0;
                    top--;
                    stack[top] = joined(-step, stack[top], stack[top + 1]);
                }
            }
            return top < 0 ? 0 : stack[top];
        }

        private static int leafOf(int step, int first, int second, int third) {
            switch (step) {
                case -1: return first;
                case -2: return second;
                case -3: return third;
                default: return step;
            }
        }

        private static int joined(int sign, int a, int b) {
            switch (sign) {
                case '|': return a != 0 || b != 0 ? 1 : 0;
                case '&': return a != 0 && b != 0 ? 1 : 0;
                case '<': return a < b ? 1 : 0;
                case '=': return a == b ? 1 : 0;
                case '>': return a > b ? 1 : 0;
                case '+': return a + b;
                case '-': return a - b;
                case '*': return a * b;
                case '/': return b == 0 ? 0 : a / b;
                default: return 0;
            }
        }

        private static int truth(boolean b) {
            return b ? 1 : 0;
        }
    }

    private static final class Tape {
        final int[] bytes;
        int size;

        Tape() {
            bytes = new int[MOST_BYTES];
        }

        void putNumber(int v) {
            for (int shift = 24; shift >= 0; shift -= 8) {
                if (size < 0 || size >= bytes.length) return;
                bytes[size] = v >>> shift & 255;
                size++;
            }
        }

        /** The byte at a place, or -1 behind the last one. */
        int byteAt(int place) {
            return place >= 0 && place < size && place < bytes.length ? bytes[place] : -1;
        }
    }

    /** Reads the tape as a text. */
    private static final class Parser {
        private static final int END = 0, LETTERS = 1, DIGITS = 2, SIGN = 3, STUCK = 4;
        private static final int MOST_OPEN = 8, MOST_DIGITS = 4;

        private final Tape tape;
        private Text text;
        /** The word or sign that is next: its sort, its first byte's place and the place behind it. */
        private int sort;
        private int start;
        private int end;
        private int openBrackets;
        private int openNots;
        private int fault;

        Parser(Tape itsTape) {
            tape = itsTape;
            text = new Text();
        }

        /** Makes a text of the tape: NONE, or the place of its fault. */
        int parse(Text into) {
            text = into;
            text.begin();
            sort = END;
            start = 0;
            end = 0;
            openBrackets = 0;
            openNots = 0;
            fault = NONE;
            step();
            readKey();
            readOr();
            if (sort != END) fail();
            return fault;
        }

        /** Nothing matches what is stuck, so all that is open ends without reading on. */
        private void fail() {
            if (fault == NONE) fault = start;
            sort = STUCK;
        }

        private void step() {
            boolean behindWord = sort == LETTERS || sort == DIGITS;
            int from = end;
            start = from;
            for (int i = 0; i < MOST_BYTES && tape.byteAt(start) == ' '; i++) start++;
            sort = sortOf(tape.byteAt(start));
            end = start;
            if (sort == END) return;
            end++;
            if (sort == SIGN) return;
            for (int i = 0; i < MOST_BYTES && sortOf(tape.byteAt(end)) == sort; i++) end++;
            if (behindWord && start == from) sort = STUCK;
        }

        private static int sortOf(int b) {
            if (b < 0) return END;
            if (b >= 'a' && b <= 'z') return LETTERS;
            return b >= '0' && b <= '9' ? DIGITS : SIGN;
        }

        private boolean isSign(char sign) {
            return sort == SIGN && tape.byteAt(start) == sign;
        }

        private boolean isWordOf(String letters) {
            if (sort != LETTERS || end - start != letters.length()) return false;
            for (int i = 0; i < letters.length(); i++) {
                if (tape.byteAt(start + i) != letters.charAt(i)) return false;
            }
            return true;
        }

        private void readKey() {
            if (isWordOf("keep")) text.key = KEEP;
            else if (isWordOf("fee")) text.key = FEE;
            else if (isWordOf("fine")) text.key = FINE;
            else fail();
            if (sort != STUCK) step();
        }

        private void readOr() {
            readAnd();
            for (int i = 0; i < MOST_BYTES && isSign('|'); i++) {
                step();
                readAnd();
                text.put(-'|');
            }
        }

        private void readAnd() {
            readTest();
            for (int i = 0; i < MOST_BYTES && isSign('&'); i++) {
                step();
                readTest();
                text.put(-'&');
            }
        }

        private void readTest() {
            readSum();
            if (isSign('<') || isSign('=') || isSign('>')) {
                int sign = tape.byteAt(start);
                step();
                readSum();
                text.put(-sign);
            }
        }

        private void readSum() {
            readTerm();
            for (int i = 0; i < MOST_BYTES && (isSign('+') || isSign('-')); i++) {
                int sign = tape.byteAt(start);
                step();
                readTerm();
                text.put(-sign);
            }
        }

        private void readTerm() {
            readPiece();
            for (int i = 0; i < MOST_BYTES && (isSign('*') || isSign('/')); i++) {
                int sign = tape.byteAt(start);
                step();
                readPiece();
                text.put(-sign);
            }
        }

        private void readPiece() {
            if (sort == DIGITS) readNumber();
            else if (sort == LETTERS) readName();
            else if (isSign('!')) readNot();
            else if (isSign('(')) readBrackets();
            else fail();
        }

        private void readNumber() {
            if (end - start > MOST_DIGITS) {
                fail();
                return;
            }
            int number = 0;
            for (int i = start; i < end; i++) number = number * 10 + tape.byteAt(i) - '0';
            putLeaf(number);
        }

        private void readName() {
            int place = end - start == 1 ? namesOf(text.key).indexOf((char) tape.byteAt(start)) : -1;
            if (place < 0) fail();
            else putLeaf(-1 - place);
        }

        private static String namesOf(int key) {
            switch (key) {
                case KEEP: return "efw";
                case FEE: return "sl";
                default: return "sf";
            }
        }

        private void putLeaf(int leaf) {
            text.put(leaf);
            text.leaves++;
            step();
        }

        private void readNot() {
            if (openNots >= MOST_OPEN) {
                fail();
                return;
            }
            openNots++;
            step();
            readPiece();
            text.put(-'!');
            openNots--;
        }

        private void readBrackets() {
            if (openBrackets >= MOST_OPEN) {
                fail();
                return;
            }
            openBrackets++;
            step();
            readOr();
            if (isSign(')')) step();
            else fail();
            openBrackets--;
        }
    }

    /** A row of shorts or of whole floats; both are held as ints, NONE standing for no number. */
    private static final class Sheet {
        int sort;
        int many;
        final int[] places;

        Sheet() {
            sort = MISSING;
            places = new int[MOST_PLACES];
        }

        void begin(int itsSort, int n) {
            sort = itsSort;
            many = n;
            for (int i = 0; i < places.length; i++) places[i] = 0;
        }

        void become(Sheet other) {
            sort = other.sort;
            many = other.many;
            for (int i = 0; i < places.length; i++) places[i] = other.places[i];
        }

        boolean hasPlace(int place) {
            return place >= 0 && place < many && place < places.length;
        }

        boolean hasPlaces(int place, int n) {
            return place >= 0 && n >= 0 && place <= many && many <= places.length && n <= many - place;
        }
    }

    private static final class Slot {
        int thing;
        int kind;
        int fame;
        int number;
        final Sheet row;

        Slot() {
            thing = EMPTY;
            row = new Sheet();
        }

        void holdSpeaker(Speaker one) {
            kind = one.kind;
            fame = one.fame;
        }
    }
}
