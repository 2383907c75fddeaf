/**
 * A file of up to 40 bytes that rots, texts that are formats, laws of rot and scripts at once, and what
 * can be asked about them. The document DOC.md says what every call answers.
 *
 * No call makes an object: every row that is needed is made with the object and used again.
 */
public final class ByteIntervals {
    /** None. */
    public static final int NONE = -1;

    /** The answer to others where NONE means something else. */
    private static final int OTHERS = -2;

    private static final int PLACES = 40;
    private static final int BYTES = 256;
    private static final int FIELDS = 8;
    private static final int ALL_FIELDS = 255;
    private static final int TEXTS = 4;
    private static final int TAPE = 300;
    private static final int FED = 20;
    private static final int CLAUSES = 24;
    private static final int STEPS = 30;
    private static final int LINES = 25;
    private static final int SAYINGS = 8;
    private static final int LAST_DAY = 9999;
    private static final int MOST_DAYS = 60;
    private static final int MOST_YEARS = 40;
    private static final int MOST_NUMBER = 9999;
    private static final int NUMBER_BYTES = 3;
    private static final int HIGHEST_VALUE = 16777215;
    private static final int DEEPEST = 2;
    private static final int ROUNDS = 8;
    private static final int FIRST_X = 479;
    private static final int PLAIN_ROTS = 3;
    private static final int MOST_ROTS = 10;
    private static final int HIGHEST = 1000000;
    private static final int MOST_OPEN = 8;
    private static final int STACK = 64;

    // How a FIELD is.
    private static final int RIGHT = 0;
    private static final int BROKEN = 1;
    private static final int WRONG = 2;
    private static final int NOT_TOLD = 3;

    // What a line of the BOOK tells.
    private static final int LINE_SET = 0;
    private static final int LINE_SIZE = 1;
    private static final int LINE_MENDED = 2;
    private static final int LINE_ROTTED = 3;

    // The kinds of CLAUSES; those of FIELDS first, as kind answers them.
    private static final int NUM = 0;
    private static final int SUM = 1;
    private static final int NEST = 2;
    private static final int MUST = 3;
    private static final int ROTS = 4;
    private static final int SET = 5;
    private static final int SIZE = 6;
    private static final int MEND = 7;
    private static final int DAY = 8;

    // The steps of code: those that put a value on the stack, ..
    private static final int OP_NUMBER = 0;
    private static final int OP_FIELD = 1;
    private static final int OP_SIZE = 2;
    private static final int OP_DEEP = 3;
    private static final int OP_DAY = 4;
    private static final int OP_PLACE = 5;
    private static final int OP_OLD = 6;
    private static final int LAST_LEAF = 6;
    // .. those that change the uppermost, ..
    private static final int OP_NEGATE = 7;
    private static final int OP_NOT = 8;
    private static final int OP_PEEK = 9;
    private static final int LAST_OF_ONE = 9;
    // .. those that make one of two, ..
    private static final int OP_PLUS = 10;
    private static final int OP_MINUS = 11;
    private static final int OP_TIMES = 12;
    private static final int OP_OVER = 13;
    private static final int OP_LESS = 14;
    private static final int OP_LESS_SAME = 15;
    private static final int OP_MORE = 16;
    private static final int OP_MORE_SAME = 17;
    private static final int OP_SAME = 18;
    private static final int OP_UNLIKE = 19;
    private static final int OP_AND = 20;
    private static final int OP_OR = 21;
    private static final int LAST_OF_TWO = 21;
    // .. and those that lead elsewhere.
    private static final int OP_SKIP_IF_NOT = 22;
    private static final int OP_SKIP = 23;
    private static final int OP_END = 24;

    private final int[] tape = new int[TAPE];
    private int tapeCount = 0;
    private int latestFault = NONE;
    private int latestFaultPlace = NONE;
    private final Text[] texts = new Text[TEXTS];
    private final State state = new State();
    private final State imageState = new State();
    private final Moment trial = new Moment();
    private final Parser parser = new Parser();
    private final Reader reader = new Reader();

    /** An empty file, no format; THE IMAGE is this. */
    public ByteIntervals() {
        for (int i = 0; i < texts.length; i++) {
            texts[i] = new Text();
        }
    }

    // ---- The tape and the TEXTS ----

    /** Twenty bytes come behind the tape, the highest of a first: how many it has. */
    public int feed(int a, int b, int c, int d, int e) {
        if (tapeCount < 0 || tapeCount + FED > TAPE) {
            return NONE;
        }
        putOnTape(a);
        putOnTape(b);
        putOnTape(c);
        putOnTape(d);
        putOnTape(e);
        return tapeCount;
    }

    private void putOnTape(int four) {
        for (int shift = 24; shift >= 0; shift -= 8) {
            if (tapeCount >= 0 && tapeCount < tape.length) {
                tape[tapeCount] = (four >> shift) & 255;
                tapeCount++;
            }
        }
    }

    /** The tape has its first n bytes alone: n. */
    public int end(int n) {
        if (n < 0 || n > tapeCount) {
            return NONE;
        }
        tapeCount = n;
        return n;
    }

    /** The tape is a TEXT: its number; it is empty then, with a FAULT too. */
    public int text() {
        int number = state.textCount;
        if (number < 0 || number >= texts.length || texts[number] == null) {
            return NONE;
        }
        // The row behind the last TEXT is free: what THE IMAGE has told lies ahead of it.
        latestFault = parser.parse(tape, tapeCount, texts[number]);
        latestFaultPlace = latestFault == 0 ? NONE : parser.faultPlace;
        tapeCount = 0;
        if (latestFault != 0) {
            return NONE;
        }
        state.textCount = number + 1;
        return number;
    }

    /** Of the latest text that was read: 0 its FAULT, 1 its place. */
    public int fault(int what) {
        if (what == 0) {
            return latestFault;
        }
        return what == 1 ? latestFaultPlace : NONE;
    }

    /** A TEXT by its number; null for others. */
    private Text textAt(int text) {
        boolean told = text >= 0 && text < state.textCount && text < texts.length;
        return told ? texts[text] : null;
    }

    /** THE TEXT; null: none. */
    private Text theText() {
        return textAt(state.ruling);
    }

    /** By THE TEXT from now on. */
    public boolean by(int text) {
        if (text != NONE && textAt(text) == null) {
            return false;
        }
        state.ruling = text;
        return true;
    }

    // ---- What changes THE FILE ----

    /** SET: a byte is another one. */
    public boolean set(int place, int value) {
        if (!state.now.canPut(place, value)) {
            return false;
        }
        state.keepStep();
        state.now.putByte(place, value);
        return true;
    }

    /** SIZE other. */
    public boolean size(int n) {
        if (!state.now.canResize(n)) {
            return false;
        }
        state.keepStep();
        state.now.resize(n);
        return true;
    }

    /** MENDED by THE TEXT: how many bytes are other. */
    public int mend() {
        int other = reader.mended(theText(), state.now);
        if (other == NONE) {
            return NONE;
        }
        state.keepStep();
        state.now.takeMended(reader.mendedBytes, other);
        return other;
    }

    /** DAYS pass: how many bits rot in them. */
    public int day(int n) {
        if (n < 1 || n > MOST_DAYS || n > LAST_DAY - state.now.day) {
            return NONE;
        }
        return passDays(n);
    }

    private int passDays(int n) {
        int rotted = 0;
        for (int i = 0; i < n; i++) {
            state.keepStep();
            rotted += passDay(state.now) ? 1 : 0;
        }
        return rotted;
    }

    /** One DAY passes for a moment, by THE TEXT: whether a bit rots in it. */
    private boolean passDay(Moment moment) {
        boolean rotted = false;
        if (moment.size > 0) {
            int place = moment.draw(moment.size);
            int bit = moment.draw(8);
            rotted = moment.draw(10) < reader.rots(theText(), moment, place);
            if (rotted) {
                moment.rot(place, bit);
            }
        }
        moment.day++;
        return rotted;
    }

    /** PLAYED by a TEXT: NONE, or the number of the CLAUSE that can't be. */
    public int played(int text) {
        Text script = textAt(text);
        if (script == null) {
            return OTHERS;
        }
        for (int i = 0; i < script.clauses && i < CLAUSES; i++) {
            boolean done = true;
            switch (script.clauseKinds[i]) {
                case SET:
                    done = set(script.first[i], script.second[i]);
                    break;
                case SIZE:
                    done = size(script.first[i]);
                    break;
                case MEND:
                    done = mend() != NONE;
                    break;
                case DAY:
                    int pass = Math.min(script.first[i], LAST_DAY - state.now.day);
                    passDays(pass);
                    done = pass == script.first[i];
                    break;
                default:
                    break;
            }
            if (!done) {
                return i;
            }
        }
        return NONE;
    }

    /** YEARS by a SEED: DAY. */
    public int years(int seed, int n) {
        if (seed < 0 || seed > MOST_NUMBER || n < 1 || n > MOST_YEARS) {
            return NONE;
        }
        state.keepStep();
        Moment now = state.now;
        now.x = seed * 2 + FIRST_X;
        for (int i = 0; i < n; i++) {
            int x = now.x;
            now.drawAnew();
            passYear(now, x);
        }
        return now.day;
    }

    private void passYear(Moment now, int x) {
        int kind = x % 6;
        if (kind == 0) {
            int place = x / 6 % 40;
            if (now.canPut(place, x % 256)) {
                now.putByte(place, x % 256);
            }
        } else if (kind == 1) {
            int n = x / 6 % 41;
            if (x % 4 == 3 && now.canResize(n)) {
                now.resize(n);
            }
        } else if (kind == 2) {
            int other = x % 4 == 0 ? reader.mended(theText(), now) : NONE;
            if (other != NONE) {
                now.takeMended(reader.mendedBytes, other);
            }
        } else if (now.day < LAST_DAY) {
            passDay(now);
        }
    }

    /** The latest STEP is taken back: how many can be yet. */
    public int undo() {
        return state.takeBack();
    }

    // ---- THE FILE as it is ----

    /** The byte at a place. */
    public int at(int place) {
        return place >= 0 && place < PLACES ? state.now.bytes[place] : NONE;
    }

    /** 0 DAY, 1 X, 2 SIZE, 3 all bytes together. */
    public int is(int what) {
        Moment now = state.now;
        switch (what) {
            case 0:
                return now.day;
            case 1:
                return now.x;
            case 2:
                return now.size;
            case 3:
                return now.together(0, now.size);
            default:
                return OTHERS;
        }
    }

    /** BOOK: how many lines; or what one tells. */
    public int book(int i, int what) {
        Moment now = state.now;
        if (i == NONE) {
            return now.lineCount;
        }
        if (i < 0 || i >= now.lineCount || i >= LINES) {
            return OTHERS;
        }
        return Moment.tell(now.lines[i], what);
    }

    /** FORETOLD: the byte at a place behind n DAYS. */
    public int foretold(int n, int place) {
        if (n < 1 || n > MOST_DAYS || place < 0 || place >= PLACES) {
            return NONE;
        }
        trial.copy(state.now);
        for (int i = 0; i < n && trial.day < LAST_DAY; i++) {
            passDay(trial);
        }
        return trial.bytes[place];
    }

    /** The NUMBER from a place to one. */
    public int number(int from, int to) {
        if (!state.now.covers(from, to) || to - from > NUMBER_BYTES) {
            return NONE;
        }
        return asNumber(state.now.bytes, from, to);
    }

    /** The bytes from a place to one together. */
    public int sum(int from, int to) {
        return state.now.covers(from, to) ? state.now.together(from, to) : NONE;
    }

    /** The first place from one on that has a byte. */
    public int find(int value, int from) {
        if (value < 0 || value >= BYTES || from < 0) {
            return NONE;
        }
        Moment now = state.now;
        for (int place = from; place < now.size && place < PLACES; place++) {
            if (now.bytes[place] == value) {
                return place;
            }
        }
        return NONE;
    }

    /** THE LONGEST RUN of like bytes. */
    public int run() {
        Moment now = state.now;
        int longest = 0;
        int length = 0;
        for (int place = 0; place < now.size && place < PLACES; place++) {
            boolean like = place > 0 && now.bytes[place] == now.bytes[place - 1];
            length = like ? length + 1 : 1;
            longest = Math.max(longest, length);
        }
        return longest;
    }

    /** BY THE BOOK: how many lines there are of a kind. */
    public int ledger(int what) {
        if (what < LINE_SET || what > LINE_ROTTED) {
            return OTHERS;
        }
        Moment now = state.now;
        int count = 0;
        for (int i = 0; i < now.lineCount && i < LINES; i++) {
            count += Moment.tell(now.lines[i], 1) == what ? 1 : 0;
        }
        return count;
    }

    // ---- THE FILE read by a FORMAT ----

    /** VALID. */
    public boolean valid(int text) {
        Text format = textAt(text);
        return format != null && reader.isValid(format, state.now.bytes, state.now.size);
    }

    /** Of a FIELD: 0 its value, 1 FROM, 2 TO, 3 how it is. */
    public int field(int text, int field, int what) {
        Text format = textAt(text);
        if (format == null || !isField(field)) {
            return OTHERS;
        }
        return reader.readFile(format, state.now, format.needed[field]).tell(field, what);
    }

    /** Of a FIELD in a NEST: likewise. */
    public int inside(int text, int nest, int field, int what) {
        Text format = textAt(text);
        if (format == null || !isField(nest) || !isField(field) || format.kinds[nest] != NEST) {
            return OTHERS;
        }
        Reading whole = reader.readFile(format, state.now, format.needed[nest]);
        if (whole.how(nest) == BROKEN) {
            return OTHERS;
        }
        return reader.readInside(format, whole.froms[nest], whole.tos[nest]).tell(field, what);
    }

    /** ORDER: the i-th FIELD. */
    public int order(int text, int i) {
        Text format = textAt(text);
        if (format == null || i < 0 || i >= format.sortedCount || i >= FIELDS) {
            return NONE;
        }
        return format.sorted[i];
    }

    /** RING: FIELDS (bits). */
    public int ring(int text) {
        Text format = textAt(text);
        return format == null ? NONE : format.ringed;
    }

    /** OVERLAP: FIELDS (bits). */
    public int overlap(int text, int field) {
        Text format = textAt(text);
        if (format == null || !isField(field)) {
            return NONE;
        }
        Reading whole = reader.readFile(format, state.now, ALL_FIELDS);
        if (!whole.isKnown(field)) {
            return NONE;
        }
        long own = whole.covered(field);
        int common = 0;
        for (int f = 0; f < FIELDS; f++) {
            if (f != field && (whole.covered(f) & own) != 0) {
                common |= 1 << f;
            }
        }
        return common;
    }

    /** LOOSE: places (bits). */
    public long loose(int text) {
        Text format = textAt(text);
        if (format == null) {
            return NONE;
        }
        Reading whole = reader.readFile(format, state.now, ALL_FIELDS);
        long covered = 0;
        for (int f = 0; f < FIELDS; f++) {
            covered |= whole.covered(f);
        }
        return span(0, state.now.size) & ~covered;
    }

    /** NEEDED: places (bits). */
    public long needs(int text, int field) {
        Text format = textAt(text);
        if (format == null || !isField(field) || !format.tells(field)) {
            return NONE;
        }
        return reader.readFile(format, state.now, format.needed[field]).looksOf(format.needed[field]);
    }

    /** FLIPS: FIELDS (bits). */
    public int flips(int text, int place) {
        Text format = textAt(text);
        if (format == null || place < 0 || place >= state.now.size || place >= PLACES) {
            return NONE;
        }
        reader.kept.copy(reader.readFile(format, state.now, ALL_FIELDS));
        trial.copy(state.now);
        trial.bytes[place] = 255 - trial.bytes[place];
        Reading flipped = reader.readFile(format, trial, ALL_FIELDS);
        return format.told & ~reader.kept.likeFields(flipped);
    }

    /** SURE: a NEST that is shorter than any interval that it is in. */
    public boolean sure(int text, int field) {
        Text format = textAt(text);
        if (format == null || !isField(field) || format.kinds[field] != NEST) {
            return false;
        }
        if (format.hangs[field] != 0 || format.swayed[field] != 0) {
            return false;
        }
        for (int n = 1; n <= PLACES; n++) {
            if (!reader.isShorter(format, field, n)) {
                return false;
            }
        }
        return true;
    }

    /** LEAST SIZE by which THE FILE is VALID. */
    public int least(int text) {
        Text format = textAt(text);
        if (format == null) {
            return NONE;
        }
        for (int n = 0; n <= PLACES; n++) {
            // Beyond SIZE every byte is 0, as those that come would be.
            if (reader.isValid(format, state.now.bytes, n)) {
                return n;
            }
        }
        return NONE;
    }

    /** TO MAKE IT SO: 256 times the place, and the byte. */
    public int make(int text, int field, int value) {
        Text format = textAt(text);
        if (format == null || !isField(field) || value < 0 || value > format.mostOf(field)) {
            return NONE;
        }
        int wanted = format.needed[field];
        Reading whole = reader.readValues(format, state.now, wanted);
        boolean so = whole.has(field, value);
        long looks = whole.looksOf(wanted);
        trial.copy(state.now);
        for (int place = 0; place < trial.size && place < PLACES; place++) {
            if ((looks >> place & 1) != 0) {
                int made = madeAt(format, field, value, place);
                if (made != NONE) {
                    return place * BYTES + made;
                }
            } else if (so) {
                // A byte that is not looked at changes nothing: the lowest other one will do.
                return place * BYTES + (trial.bytes[place] == 0 ? 1 : 0);
            }
        }
        return NONE;
    }

    /** The lowest other byte at a place of the trial by which a FIELD has a value; the trial stays as it was. */
    private int madeAt(Text format, int field, int value, int place) {
        if (place < 0 || place >= PLACES) {
            return NONE;
        }
        int old = trial.bytes[place];
        int made = NONE;
        for (int b = 0; b < BYTES && made == NONE; b++) {
            if (b != old) {
                trial.bytes[place] = b;
                if (reader.readValues(format, trial, format.needed[field]).has(field, value)) {
                    made = b;
                }
            }
        }
        trial.bytes[place] = old;
        return made;
    }

    /** ALIKE: FIELDS (bits). */
    public int alike(int text, int other) {
        Text format = textAt(text);
        Text second = textAt(other);
        if (format == null || second == null) {
            return NONE;
        }
        reader.kept.copy(reader.readFile(format, state.now, ALL_FIELDS));
        Reading whole = reader.readFile(second, state.now, ALL_FIELDS);
        return format.told & second.told & reader.kept.likeFields(whole);
    }

    /** MUST: the number of the first CLAUSE that is not. */
    public int must(int text) {
        Text format = textAt(text);
        if (format == null) {
            return NONE;
        }
        return reader.readFile(format, state.now, ALL_FIELDS).unmet;
    }

    /** HOW DEEP: the deepest NEST that is read. */
    public int deep(int text) {
        Text format = textAt(text);
        if (format == null) {
            return NONE;
        }
        reader.readFile(format, state.now, ALL_FIELDS);
        return reader.deepest;
    }

    /** 0 NUM, 1 SUM, 2 NEST. */
    public int kind(int text, int field) {
        Text format = textAt(text);
        return format == null || !isField(field) ? NONE : format.kinds[field];
    }

    // ---- SAID, and WHOSE FORMAT ----

    /** SAID: how many there are. */
    public int said(int field, int value) {
        if (field == NONE) {
            state.saidCount = 0;
            return 0;
        }
        int count = state.saidCount;
        if (!isField(field) || value < 0 || value > HIGHEST_VALUE || count < 0 || count >= SAYINGS) {
            return OTHERS;
        }
        state.saidFields[count] = field;
        state.saidValues[count] = value;
        state.saidCount = count + 1;
        return count + 1;
    }

    /** WHOSE FORMAT (bits). */
    public int whose() {
        int bits = 0;
        for (int i = 0; i < state.textCount && i < texts.length; i++) {
            if (allSaidIsSo(texts[i])) {
                bits |= 1 << i;
            }
        }
        return bits;
    }

    private boolean allSaidIsSo(Text format) {
        if (format == null) {
            return false;
        }
        Reading whole = reader.readFile(format, state.now, ALL_FIELDS);
        for (int i = 0; i < state.saidCount && i < SAYINGS; i++) {
            if (!whole.has(state.saidFields[i], state.saidValues[i])) {
                return false;
            }
        }
        return true;
    }

    // ---- THE IMAGE, and what there is ----

    /** THE IMAGE is as all is now: DAY. */
    public int image() {
        imageState.copy(state);
        return state.now.day;
    }

    /** BACK to THE IMAGE: DAY. */
    public int back() {
        state.copy(imageState);
        return state.now.day;
    }

    /** 0 TEXTS, 1 THE TEXT, 2 STEPS that can be taken back, 3 SAID, 4 bytes of the tape. */
    public int about(int what) {
        switch (what) {
            case 0:
                return state.textCount;
            case 1:
                return state.ruling;
            case 2:
                return state.stepCount;
            case 3:
                return state.saidCount;
            case 4:
                return tapeCount;
            default:
                return OTHERS;
        }
    }

    // ---- Small things that all parts use ----

    private static boolean isField(int field) {
        return field >= 0 && field < FIELDS;
    }

    private static boolean hasBit(int bits, int i) {
        return (bits >> i & 1) != 0;
    }

    /** The places from one to another, as bits. */
    private static long span(int from, int to) {
        if (from < 0 || to <= from || to > PLACES) {
            return 0;
        }
        return ((1L << (to - from)) - 1) << from;
    }

    /** Bytes as a number, the first highest. */
    private static int asNumber(int[] bytes, int from, int to) {
        int number = 0;
        for (int i = Math.max(from, 0); i < to && i < bytes.length; i++) {
            number = number * BYTES + bytes[i];
        }
        return number;
    }

    /** THE FILE with DAY, X and BOOK: what a STEP that is taken back brings again. */
    private static final class Moment {
        private final int[] bytes = new int[PLACES];
        /** A line each, the eldest first: DAY, what, the place and the byte in one int. */
        private final int[] lines = new int[LINES];
        private int lineCount = 0;
        private int size = 0;
        private int day = 0;
        private int x = FIRST_X;

        private void copy(Moment other) {
            System.arraycopy(other.bytes, 0, bytes, 0, PLACES);
            System.arraycopy(other.lines, 0, lines, 0, LINES);
            lineCount = other.lineCount;
            size = other.size;
            day = other.day;
            x = other.x;
        }

        private int draw(int by) {
            int drawn = by > 0 ? x % by : 0;
            drawAnew();
            return drawn;
        }

        private void drawAnew() {
            x = (x * 743 + 607) % 31079;
        }

        private boolean covers(int from, int to) {
            return from >= 0 && from <= to && to <= size;
        }

        private int together(int from, int to) {
            int total = 0;
            for (int place = Math.max(from, 0); place < to && place < PLACES; place++) {
                total += bytes[place];
            }
            return total;
        }

        private boolean canPut(int place, int value) {
            boolean inFile = place >= 0 && place < size && place < PLACES;
            return inFile && value >= 0 && value < BYTES && bytes[place] != value;
        }

        private void putByte(int place, int value) {
            if (place >= 0 && place < PLACES) {
                bytes[place] = value;
                write(LINE_SET, place, value);
            }
        }

        private boolean canResize(int n) {
            return n >= 0 && n <= PLACES && n != size;
        }

        private void resize(int n) {
            for (int place = Math.max(n, 0); place < PLACES; place++) {
                bytes[place] = 0;
            }
            size = n;
            write(LINE_SIZE, n, 0);
        }

        private void rot(int place, int bit) {
            if (place >= 0 && place < PLACES) {
                bytes[place] ^= 1 << bit;
                write(LINE_ROTTED, place, bytes[place]);
            }
        }

        private void takeMended(int[] mended, int other) {
            for (int place = 0; place < mended.length && place < PLACES; place++) {
                bytes[place] = mended[place];
            }
            write(LINE_MENDED, other, 0);
        }

        private void write(int what, int place, int value) {
            if (lineCount >= LINES) {
                System.arraycopy(lines, 1, lines, 0, LINES - 1);
                lineCount = LINES - 1;
            }
            if (lineCount >= 0) {
                lines[lineCount] = day << 16 | what << 14 | place << 8 | value;
                lineCount++;
            }
        }

        /** What a line tells: 0 DAY, 1 what, 2 the place, 3 the byte. */
        private static int tell(int line, int what) {
            switch (what) {
                case 0:
                    return line >> 16;
                case 1:
                    return line >> 14 & 3;
                case 2:
                    return line >> 8 & 63;
                case 3:
                    return line & 255;
                default:
                    return OTHERS;
            }
        }
    }

    /** What AN IMAGE holds: all but the tape and the latest FAULT. */
    private static final class State {
        private final Moment now = new Moment();
        /** A ring: the moments ahead of the latest STEPS, the eldest at firstStep. */
        private final Moment[] steps = new Moment[STEPS];
        private int firstStep = 0;
        private int stepCount = 0;
        private int textCount = 0;
        private int ruling = NONE;
        private final int[] saidFields = new int[SAYINGS];
        private final int[] saidValues = new int[SAYINGS];
        private int saidCount = 0;

        private State() {
            for (int i = 0; i < steps.length; i++) {
                steps[i] = new Moment();
            }
        }

        private void copy(State other) {
            now.copy(other.now);
            for (int i = 0; i < STEPS; i++) {
                copyStep(steps[i], other.steps[i]);
            }
            firstStep = other.firstStep;
            stepCount = other.stepCount;
            textCount = other.textCount;
            ruling = other.ruling;
            System.arraycopy(other.saidFields, 0, saidFields, 0, SAYINGS);
            System.arraycopy(other.saidValues, 0, saidValues, 0, SAYINGS);
            saidCount = other.saidCount;
        }

        private static void copyStep(Moment to, Moment from) {
            if (to != null && from != null) {
                to.copy(from);
            }
        }

        private Moment stepAt(int i) {
            return steps[Math.floorMod(firstStep + i, STEPS)];
        }

        /** A STEP is about to be done: how all is ahead of it is kept. */
        private void keepStep() {
            copyStep(stepAt(stepCount), now);
            if (stepCount < STEPS) {
                stepCount++;
            } else {
                firstStep = Math.floorMod(firstStep + 1, STEPS);
            }
        }

        private int takeBack() {
            if (stepCount < 1) {
                return NONE;
            }
            stepCount--;
            copyStep(now, stepAt(stepCount));
            return stepCount;
        }
    }

    /** A TEXT that has no FAULT, made ready to be read by. */
    private static final class Text {
        private int clauses;
        private final int[] clauseKinds = new int[CLAUSES];
        /** Of a must where its code starts; of set the place, of size and day the NUMBER. */
        private final int[] first = new int[CLAUSES];
        /** Of a must the FIELDS that it names, of set the byte. */
        private final int[] second = new int[CLAUSES];
        /** Every EITHER and SUM, the operators behind what they work on; a step is its kind and 32 times the rest. */
        private final int[] code = new int[TAPE];
        private int rotsCode;
        private int told;
        private final int[] kinds = new int[FIELDS];
        private final int[] atCode = new int[FIELDS];
        private final int[] ofCode = new int[FIELDS];
        private final int[] toCode = new int[FIELDS];
        private final int[] hangs = new int[FIELDS];
        /** 1 where a SUM of the FIELD names deep or peeks. */
        private final int[] swayed = new int[FIELDS];
        private final int[] sorted = new int[FIELDS];
        private int sortedCount;
        private int ringed;
        /** The FIELD and all that it hangs on, and so on; none for one in RING. */
        private final int[] needed = new int[FIELDS];
        private boolean tellsSum;
        /** The sums that are not in RING, and all that they hang on. */
        private int sumNeeds;
        /** Likewise, of the nests. */
        private int nestNeeds;

        private void clear() {
            clauses = 0;
            rotsCode = NONE;
            told = 0;
            for (int f = 0; f < FIELDS; f++) {
                kinds[f] = NONE;
                hangs[f] = 0;
                swayed[f] = 0;
            }
        }

        private boolean tells(int field) {
            return hasBit(told, field);
        }

        private void sort() {
            sortedCount = 0;
            int placed = 0;
            for (int round = 0; round < FIELDS; round++) {
                int f = lowestReady(placed);
                if (f != NONE) {
                    placed |= 1 << f;
                    sorted[round] = f;
                    sortedCount = round + 1;
                }
            }
            ringed = told & ~placed;
            gatherNeeded();
        }

        /** The lowest FIELD told, not yet placed, of which all that it hangs on is placed or not told. */
        private int lowestReady(int placed) {
            for (int f = 0; f < FIELDS; f++) {
                boolean waits = tells(f) && !hasBit(placed, f);
                if (waits && (hangs[f] & told & ~placed) == 0) {
                    return f;
                }
            }
            return NONE;
        }

        private void gatherNeeded() {
            sumNeeds = 0;
            nestNeeds = 0;
            tellsSum = false;
            for (int f = 0; f < FIELDS; f++) {
                needed[f] = 0;
                tellsSum = tellsSum || kinds[f] == SUM;
            }
            for (int i = 0; i < sortedCount && i < FIELDS; i++) {
                int f = sorted[i];
                if (isField(f)) {
                    needed[f] = 1 << f;
                    for (int g = 0; g < FIELDS; g++) {
                        needed[f] |= hasBit(hangs[f], g) ? needed[g] : 0;
                    }
                    sumNeeds |= kinds[f] == SUM ? needed[f] : 0;
                    nestNeeds |= kinds[f] == NEST ? needed[f] : 0;
                }
            }
        }

        /** The highest value that a FIELD could have; NONE for one that is not told. */
        private int mostOf(int field) {
            switch (isField(field) ? kinds[field] : NONE) {
                case NUM:
                    return HIGHEST_VALUE;
                case SUM:
                    return BYTES - 1;
                case NEST:
                    // NESTS in it hold no NESTS that are not BROKEN.
                    return 1 + FIELDS;
                default:
                    return NONE;
            }
        }
    }

    /** Reads a tape as a TEXT, token by token, up to its first FAULT. */
    private static final class Parser {
        /** The kinds of CLAUSES first, by their numbers: the token of a word is its number here. */
        private static final String WORDS =
                "num sum nest must rots set size mend day at of to peek if then else end or and not deep place old ";
        private static final int T_AT = 9;
        private static final int T_OF = 10;
        private static final int T_TO = 11;
        private static final int T_PEEK = 12;
        private static final int T_IF = 13;
        private static final int T_THEN = 14;
        private static final int T_ELSE = 15;
        private static final int T_END = 16;
        private static final int T_OR = 17;
        private static final int T_AND = 18;
        private static final int T_NOT = 19;
        private static final int T_DEEP = 20;
        private static final int T_PLACE = 21;
        private static final int T_OLD = 22;
        /** The token of a FIELD is this and its number. */
        private static final int T_FIELD = 32;
        private static final int T_NUMBER = 64;
        private static final int T_NONE = 65;
        private static final int T_LENGTH = 66;
        /** The token of a sign is this and its byte; with = behind it, twice this. */
        private static final int SIGN = 128;
        private static final String SIGNS = "<>=#+-*/();";

        private final int[] tokens = new int[TAPE + 1];
        private final int[] starts = new int[TAPE + 1];
        private final int[] numbers = new int[TAPE + 1];
        private int count;
        /** The token that is come to, and which it is. */
        private int token;
        private int here;
        private Text into = new Text();
        private int codeLength;
        private int clauseKind;
        private int open;
        private int named;
        private int swayed;
        private int fault;
        private int faultPlace;

        /** The FAULT, 0 without. */
        private int parse(int[] tape, int length, Text text) {
            split(tape, Math.max(0, Math.min(length, TAPE)));
            here = 0;
            token = tokens[0];
            codeLength = 0;
            open = 0;
            fault = 0;
            faultPlace = NONE;
            into = text;
            into.clear();
            for (int i = 0; i <= TAPE && token != T_LENGTH && fault == 0; i++) {
                if (readKind() && readRest(into.clauses - 1)) {
                    take(SIGN + ';');
                }
            }
            if (fault == 0) {
                into.sort();
            }
            return fault;
        }

        private boolean fail(int number) {
            if (fault == 0 && here >= 0 && here < starts.length) {
                fault = number;
                faultPlace = starts[here];
            }
            return false;
        }

        // -- Tokens --

        private static boolean isLetter(int c) {
            return c >= 'a' && c <= 'z' || c >= 'A' && c <= 'Z';
        }

        private static boolean isDigit(int c) {
            return c >= '0' && c <= '9';
        }

        private void split(int[] tape, int length) {
            count = 0;
            int next = 0;
            while (next < length && next < tape.length) {
                int c = tape[next];
                int stop = next + 1;
                if (isLetter(c)) {
                    while (stop < length && stop < tape.length && isLetter(tape[stop])) {
                        stop++;
                    }
                    put(wordToken(tape, next, stop), next, 0);
                } else if (isDigit(c)) {
                    int number = c - '0';
                    while (stop < length && stop < tape.length && isDigit(tape[stop])) {
                        // One that is too high is told by any other that is.
                        number = Math.min(number * 10 + tape[stop] - '0', MOST_NUMBER + 1);
                        stop++;
                    }
                    put(T_NUMBER, next, number);
                } else if ((c == '<' || c == '>') && stop < length && stop < tape.length && tape[stop] == '=') {
                    put(SIGN * 2 + c, next, 0);
                    stop++;
                } else if (c != 32 && c != 10) {
                    put(signToken(c), next, 0);
                }
                next = stop;
            }
            put(T_LENGTH, length, 0);
        }

        private void put(int what, int start, int number) {
            if (count >= 0 && count <= TAPE) {
                tokens[count] = what;
                starts[count] = start;
                numbers[count] = number;
                count++;
            }
        }

        private static int signToken(int c) {
            return c > 0 && c < SIGN && SIGNS.indexOf((char) c) >= 0 ? SIGN + c : T_NONE;
        }

        private static int wordToken(int[] tape, int from, int to) {
            if (to - from == 1 && from >= 0 && from < tape.length && isField(tape[from] - 'a')) {
                return T_FIELD + tape[from] - 'a';
            }
            int word = 0;
            int at = from;
            for (int i = 0; i < WORDS.length(); i++) {
                char c = WORDS.charAt(i);
                if (c == ' ' && at == to) {
                    return word;
                }
                if (c == ' ') {
                    word++;
                    at = from;
                } else {
                    // NONE: the word is another one.
                    at = at >= 0 && at < to && at < tape.length && tape[at] == c ? at + 1 : NONE;
                }
            }
            return T_NONE;
        }

        private boolean advance() {
            if (here >= 0 && here < count - 1 && here < TAPE) {
                here++;
                token = tokens[here];
            }
            return true;
        }

        private boolean take(int wanted) {
            return token == wanted ? advance() : fail(1);
        }

        private int numberHere() {
            return token == T_NUMBER && here >= 0 && here <= TAPE ? numbers[here] : NONE;
        }

        /** A step of code is put down: where. */
        private int emit(int op, int rest) {
            int at = codeLength;
            if (at < 0 || at >= TAPE) {
                return 0;
            }
            into.code[at] = rest << 5 | op;
            codeLength = at + 1;
            return at;
        }

        // -- CLAUSES --

        private boolean readKind() {
            int clause = into.clauses;
            if (token < NUM || token > DAY) {
                return fail(1);
            }
            if (token == ROTS && into.rotsCode != NONE) {
                return fail(4);
            }
            if (clause < 0 || clause >= CLAUSES) {
                return fail(6);
            }
            clauseKind = token;
            into.clauseKinds[clause] = clauseKind;
            into.first[clause] = 0;
            into.second[clause] = 0;
            into.clauses = clause + 1;
            named = 0;
            swayed = 0;
            return advance();
        }

        private boolean readRest(int clause) {
            if (clause < 0 || clause >= CLAUSES) {
                return false;
            }
            switch (clauseKind) {
                case MUST:
                    into.first[clause] = codeLength;
                    boolean either = readEither() && emit(OP_END, 0) >= 0;
                    into.second[clause] = named;
                    return either;
                case ROTS:
                    into.rotsCode = codeLength;
                    return readSum() && emit(OP_END, 0) >= 0;
                case SET:
                    return readNumber(0, PLACES - 1, into.first, clause) && take(T_TO)
                            && readNumber(0, BYTES - 1, into.second, clause);
                case SIZE:
                    return readNumber(0, PLACES, into.first, clause);
                case MEND:
                    return true;
                case DAY:
                    return readNumber(1, MOST_DAYS, into.first, clause);
                default:
                    return readField();
            }
        }

        private boolean readNumber(int least, int most, int[] row, int i) {
            int number = numberHere();
            if (number == NONE) {
                return fail(1);
            }
            if (number < least || number > most) {
                return fail(2);
            }
            if (i >= 0 && i < row.length) {
                row[i] = number;
            }
            return advance();
        }

        private boolean readField() {
            int field = token - T_FIELD;
            if (!isField(field)) {
                return fail(1);
            }
            if (into.tells(field)) {
                return fail(4);
            }
            into.told |= 1 << field;
            into.kinds[field] = clauseKind;
            advance();
            boolean read = readPart(T_AT, into.atCode, field)
                    && (clauseKind != SUM || readPart(T_OF, into.ofCode, field))
                    && readPart(T_TO, into.toCode, field);
            into.hangs[field] = named;
            into.swayed[field] = swayed;
            return read;
        }

        private boolean readPart(int word, int[] codes, int field) {
            if (field >= 0 && field < codes.length) {
                codes[field] = codeLength;
            }
            return take(word) && readSum() && emit(OP_END, 0) >= 0;
        }

        // -- SUMS: what stands open around a ONE is bounded by FAULT 3, and the calls with it --

        private boolean opens() {
            if (open >= MOST_OPEN) {
                return fail(3);
            }
            open++;
            return advance();
        }

        private boolean closes() {
            open--;
            return true;
        }

        private boolean readSum() {
            boolean read = readProduct();
            for (int i = 0; i < TAPE && read && (token == SIGN + '+' || token == SIGN + '-'); i++) {
                int op = token == SIGN + '+' ? OP_PLUS : OP_MINUS;
                read = advance() && readProduct() && emit(op, 0) >= 0;
            }
            return read;
        }

        private boolean readProduct() {
            boolean read = readOne();
            for (int i = 0; i < TAPE && read && (token == SIGN + '*' || token == SIGN + '/'); i++) {
                int op = token == SIGN + '*' ? OP_TIMES : OP_OVER;
                read = advance() && readOne() && emit(op, 0) >= 0;
            }
            return read;
        }

        private boolean readOne() {
            switch (token) {
                case SIGN + '(':
                    return opens() && readSum() && take(SIGN + ')') && closes();
                case SIGN + '-':
                    return opens() && readOne() && closes() && emit(OP_NEGATE, 0) >= 0;
                case T_PEEK:
                    swayed = 1;
                    return opens() && readOne() && closes() && emit(OP_PEEK, 0) >= 0;
                case T_IF:
                    return readIf();
                default:
                    return readName();
            }
        }

        private boolean readIf() {
            if (!opens() || !readEither()) {
                return false;
            }
            int skipThen = emit(OP_SKIP_IF_NOT, 0);
            if (!take(T_THEN) || !readSum()) {
                return false;
            }
            int skipElse = emit(OP_SKIP, 0);
            aim(skipThen);
            if (!take(T_ELSE) || !readSum()) {
                return false;
            }
            aim(skipElse);
            return take(T_END) && closes();
        }

        /** A step that skips leads to what comes next. */
        private void aim(int at) {
            if (at >= 0 && at < TAPE) {
                into.code[at] |= codeLength << 5;
            }
        }

        /** A NUMBER or a NAME. */
        private boolean readName() {
            int field = token - T_FIELD;
            boolean law = clauseKind == ROTS;
            if (token == T_NUMBER) {
                return numberHere() > MOST_NUMBER ? fail(2) : emit(OP_NUMBER, numberHere()) >= 0 && advance();
            }
            if (token == SIZE) {
                return emit(OP_SIZE, 0) >= 0 && advance();
            }
            if (!isField(field) && token != T_DEEP && token != DAY && token != T_PLACE && token != T_OLD) {
                return fail(1);
            }
            boolean ofFormat = isField(field) || token == T_DEEP;
            if (law == ofFormat) {
                return fail(5);
            }
            if (isField(field)) {
                named |= 1 << field;
                emit(OP_FIELD, field);
            } else if (token == T_DEEP) {
                swayed = 1;
                emit(OP_DEEP, 0);
            } else if (token == DAY) {
                emit(OP_DAY, 0);
            } else {
                emit(token == T_PLACE ? OP_PLACE : OP_OLD, 0);
            }
            return advance();
        }

        private boolean readEither() {
            boolean read = readBoth();
            for (int i = 0; i < TAPE && read && token == T_OR; i++) {
                read = advance() && readBoth() && emit(OP_OR, 0) >= 0;
            }
            return read;
        }

        private boolean readBoth() {
            boolean read = readAsk();
            for (int i = 0; i < TAPE && read && token == T_AND; i++) {
                read = advance() && readAsk() && emit(OP_AND, 0) >= 0;
            }
            return read;
        }

        private boolean readAsk() {
            if (token == T_NOT) {
                return opens() && readAsk() && closes() && emit(OP_NOT, 0) >= 0;
            }
            if (!readSum()) {
                return false;
            }
            int op = comparisonHere();
            if (op == NONE) {
                return fail(1);
            }
            return advance() && readSum() && emit(op, 0) >= 0;
        }

        private int comparisonHere() {
            switch (token) {
                case SIGN + '<':
                    return OP_LESS;
                case SIGN * 2 + '<':
                    return OP_LESS_SAME;
                case SIGN + '>':
                    return OP_MORE;
                case SIGN * 2 + '>':
                    return OP_MORE_SAME;
                case SIGN + '=':
                    return OP_SAME;
                case SIGN + '#':
                    return OP_UNLIKE;
                default:
                    return NONE;
            }
        }
    }

    /** A FORMAT read in one interval. */
    private static final class Reading {
        private int base;
        private int size;
        private int deep;
        private int told;
        private int broken;
        private int wrong;
        private final int[] values = new int[FIELDS];
        private final int[] froms = new int[FIELDS];
        private final int[] tos = new int[FIELDS];
        /** The places of THE FILE that each FIELD itself looks at. */
        private final long[] looks = new long[FIELDS];
        /** The first must that is not, and what all of them look at. */
        private int unmet;
        private long mustLooks;

        /** At first every FIELD told is BROKEN. */
        private void begin(int fields, int deepness, int start, int length) {
            base = start;
            size = length;
            deep = deepness;
            told = fields;
            broken = fields;
            wrong = 0;
            unmet = NONE;
            mustLooks = 0;
            for (int f = 0; f < FIELDS; f++) {
                int none = hasBit(told, f) ? NONE : 0;
                values[f] = none;
                froms[f] = none;
                tos[f] = none;
                looks[f] = 0;
            }
        }

        /** What two readings are compared by. */
        private void copy(Reading other) {
            told = other.told;
            broken = other.broken;
            wrong = other.wrong;
            System.arraycopy(other.values, 0, values, 0, FIELDS);
        }

        private int how(int field) {
            if (!hasBit(told, field)) {
                return NOT_TOLD;
            }
            if (hasBit(broken, field)) {
                return BROKEN;
            }
            return hasBit(wrong, field) ? WRONG : RIGHT;
        }

        /** No FIELD told is BROKEN or WRONG, and each must is. */
        private boolean isSound() {
            return broken == 0 && wrong == 0 && unmet == NONE;
        }

        /** Told, and not BROKEN. */
        private boolean isKnown(int field) {
            return hasBit(told & ~broken, field);
        }

        private boolean has(int field, int value) {
            return isField(field) && isKnown(field) && values[field] == value;
        }

        private int tell(int field, int what) {
            if (!isField(field) || what < 0 || what > 3) {
                return OTHERS;
            }
            int how = how(field);
            if (what == 3) {
                return how;
            }
            if (how == NOT_TOLD) {
                return OTHERS;
            }
            if (what == 0) {
                return values[field];
            }
            return what == 1 ? froms[field] : tos[field];
        }

        /** The places from FROM to TO (of sum its one) as bits; none of one that is BROKEN or not told. */
        private long covered(int field) {
            return isField(field) && isKnown(field) ? span(froms[field], tos[field]) : 0;
        }

        private long looksOf(int fields) {
            long all = 0;
            for (int f = 0; f < FIELDS; f++) {
                all |= hasBit(fields, f) ? looks[f] : 0;
            }
            return all;
        }

        /** The FIELDS that have like values and are alike in both. */
        private int likeFields(Reading other) {
            int like = 0;
            for (int f = 0; f < FIELDS; f++) {
                if (values[f] == other.values[f] && how(f) == other.how(f)) {
                    like |= 1 << f;
                }
            }
            return like;
        }
    }

    /** Reads bytes by a FORMAT, and asks SUMS. */
    private static final class Reader {
        private final int[] stack = new int[STACK];
        private final Reading whole = new Reading();
        private final Reading nested = new Reading();
        private final Reading inmost = new Reading();
        /** A reading that another one is compared with. */
        private final Reading kept = new Reading();
        private final int[] mendedBytes = new int[PLACES];
        private final int[] bytesBefore = new int[PLACES];
        /** The bytes that are being read: of THE FILE, of one that is tried, or those that are mended. */
        private int[] bytes = mendedBytes;
        private int deepest;
        /** No more is read than what values, and that a FIELD is BROKEN, hang on: not what is WRONG. */
        private boolean valuesOnly;
        /** The places that the peeks of a FIELD or a must look at. */
        private long peeked;
        private int rotDay;
        private int rotPlace;
        private int rotOld;

        private Reading readingAt(int deep) {
            if (deep <= 0) {
                return whole;
            }
            return deep == 1 ? nested : inmost;
        }

        /** THE FILE is read, as far as some FIELDS (with all that they hang on) need it. */
        private Reading readFile(Text text, Moment file, int wanted) {
            bytes = file.bytes;
            deepest = 0;
            return readFormat(text, 0, 0, file.size, wanted);
        }

        /** Likewise, but for values alone: nothing that just makes a FIELD WRONG is looked at. */
        private Reading readValues(Text text, Moment file, int wanted) {
            bytes = file.bytes;
            valuesOnly = true;
            Reading reading = readFormat(text, 0, 0, file.size, wanted);
            valuesOnly = false;
            return reading;
        }

        /** A NEST of THE FILE that was read is read again, to stay in its reading. */
        private Reading readInside(Text text, int from, int to) {
            return readFormat(text, 1, from, to - from, ALL_FIELDS);
        }

        private boolean isValid(Text text, int[] file, int size) {
            if (text.ringed != 0) {
                return false;
            }
            bytes = file;
            Reading reading = readFormat(text, 0, 0, size, ALL_FIELDS);
            return reading.isSound();
        }

        private Reading readFormat(Text text, int deep, int base, int size, int wanted) {
            Reading reading = readingAt(deep);
            reading.begin(text.told, deep, base, size);
            for (int i = 0; i < text.sortedCount && i < FIELDS; i++) {
                int field = text.sorted[i];
                if (isField(field) && hasBit(wanted, field)) {
                    readField(text, reading, field);
                }
            }
            if (wanted == ALL_FIELDS) {
                askMusts(text, reading);
            }
            return reading;
        }

        private void readField(Text text, Reading in, int field) {
            if (!isField(field) || (text.hangs[field] & in.broken) != 0) {
                return;
            }
            int kind = text.kinds[field];
            peeked = 0;
            int from = answer(text, text.atCode[field], in);
            int of = kind == SUM ? answer(text, text.ofCode[field], in) : from;
            int to = answer(text, text.toCode[field], in);
            in.looks[field] = peeked;
            boolean within = 0 <= of && of <= to && to <= in.size && 0 <= from && from <= in.size;
            if (!within) {
                return;
            }
            if (kind == NUM && to - from <= NUMBER_BYTES) {
                in.looks[field] |= span(in.base + from, in.base + to);
                know(in, field, from, to, asNumber(bytes, in.base + from, in.base + to));
            } else if (kind == SUM && from < in.size) {
                readSummed(in, field, from, of, to);
            } else if (kind == NEST && to - from < in.size && in.deep < DEEPEST) {
                readNest(text, in, field, from, to);
            }
        }

        private static void know(Reading in, int field, int from, int to, int value) {
            if (isField(field)) {
                in.broken &= ~(1 << field);
                in.froms[field] = from;
                in.tos[field] = to;
                in.values[field] = value;
            }
        }

        private void readSummed(Reading in, int field, int from, int of, int to) {
            int total = 0;
            for (int place = of; place < to; place++) {
                total += place == from ? 0 : byteIn(in, place);
            }
            int sum = total % BYTES;
            know(in, field, from, from + 1, sum);
            if (isField(field)) {
                long own = span(in.base + from, in.base + from + 1);
                long others = span(in.base + of, in.base + to) & ~own;
                in.looks[field] |= valuesOnly ? others : others | own;
                in.wrong |= byteIn(in, from) == sum ? 0 : 1 << field;
            }
        }

        private void readNest(Text text, Reading in, int field, int from, int to) {
            int deep = in.deep + 1;
            if (!isField(field) || deep > DEEPEST) {
                return;
            }
            deepest = Math.max(deepest, deep);
            // In the deepest one NESTS are BROKEN: no value hangs on what is in it.
            int nestsAlone = deep < DEEPEST ? text.nestNeeds : 0;
            Reading inner = readFormat(text, deep, in.base + from, to - from, valuesOnly ? nestsAlone : ALL_FIELDS);
            int value = 1;
            for (int f = 0; f < FIELDS; f++) {
                value += text.kinds[f] == NEST && inner.isKnown(f) ? inner.values[f] : 0;
            }
            know(in, field, from, to, value);
            in.looks[field] |= inner.looksOf(ALL_FIELDS) | inner.mustLooks;
            in.wrong |= inner.isSound() ? 0 : 1 << field;
        }

        /** All of them are asked, behind one that is not, too, for what they look at. */
        private void askMusts(Text text, Reading in) {
            for (int i = 0; i < text.clauses && i < CLAUSES; i++) {
                if (text.clauseKinds[i] == MUST) {
                    boolean met = false;
                    if ((text.second[i] & in.broken) == 0) {
                        peeked = 0;
                        met = answer(text, text.first[i], in) != 0;
                        in.mustLooks |= peeked;
                    }
                    in.unmet = !met && in.unmet == NONE ? i : in.unmet;
                }
            }
        }

        /** Whether a NEST that names no FIELD is shorter than an interval of n bytes, or is not in it. */
        private boolean isShorter(Text text, int field, int n) {
            if (!isField(field)) {
                return false;
            }
            whole.begin(text.told, 0, 0, n);
            int from = answer(text, text.atCode[field], whole);
            int to = answer(text, text.toCode[field], whole);
            boolean within = 0 <= from && from <= to && to <= n;
            return !within || to - from < n;
        }

        /** MENDED: how many bytes are other, those that come being in mendedBytes; NONE if it can't be. */
        private int mended(Text text, Moment file) {
            if (text == null || !text.tellsSum) {
                return NONE;
            }
            System.arraycopy(file.bytes, 0, mendedBytes, 0, PLACES);
            bytes = mendedBytes;
            for (int round = 0; round < ROUNDS; round++) {
                readFormat(text, 0, 0, file.size, text.sumNeeds);
                System.arraycopy(mendedBytes, 0, bytesBefore, 0, PLACES);
                putSums(text);
                if (unlikeBytes(bytesBefore) == 0) {
                    return unlikeBytes(file.bytes);
                }
            }
            return NONE;
        }

        private void putSums(Text text) {
            for (int i = 0; i < text.sortedCount && i < FIELDS; i++) {
                int field = text.sorted[i];
                if (isField(field) && text.kinds[field] == SUM && whole.isKnown(field)) {
                    int from = whole.froms[field];
                    if (from >= 0 && from < PLACES) {
                        mendedBytes[from] = whole.values[field];
                    }
                }
            }
        }

        private int unlikeBytes(int[] others) {
            int unlike = 0;
            for (int place = 0; place < PLACES && place < others.length; place++) {
                unlike += mendedBytes[place] == others[place] ? 0 : 1;
            }
            return unlike;
        }

        /** Of 10: how likely it is that a bit of the byte at a place rots. */
        private int rots(Text law, Moment file, int place) {
            if (law == null || law.rotsCode == NONE || place < 0 || place >= PLACES) {
                return PLAIN_ROTS;
            }
            bytes = file.bytes;
            whole.begin(0, 0, 0, file.size);
            rotDay = file.day;
            rotPlace = place;
            rotOld = file.bytes[place];
            return Math.max(0, Math.min(MOST_ROTS, answer(law, law.rotsCode, whole)));
        }

        private int byteIn(Reading in, int place) {
            int at = in.base + place;
            return place >= 0 && place < in.size && at >= 0 && at < bytes.length ? bytes[at] : 0;
        }

        /** What the code of a SUM or an EITHER (1: it is so) comes to. */
        private int answer(Text text, int start, Reading in) {
            int top = 0;
            int[] code = text.code;
            for (int at = Math.max(start, 0); at < code.length; at++) {
                int op = code[at] & 31;
                int rest = code[at] >> 5;
                if (op <= LAST_LEAF && top >= 0 && top < STACK) {
                    stack[top] = leaf(op, rest, in);
                    top++;
                } else if (op <= LAST_OF_ONE && top >= 1 && top <= STACK) {
                    stack[top - 1] = ofOne(op, stack[top - 1], in);
                } else if (op <= LAST_OF_TWO && top >= 2 && top <= STACK) {
                    top--;
                    stack[top - 1] = ofTwo(op, stack[top - 1], stack[top]);
                } else if (op == OP_SKIP_IF_NOT && top >= 1 && top <= STACK) {
                    top--;
                    at = stack[top] == 0 ? Math.max(at, rest - 1) : at;
                } else if (op == OP_SKIP) {
                    at = Math.max(at, rest - 1);
                } else {
                    break;
                }
            }
            return top >= 1 && top <= STACK ? stack[top - 1] : 0;
        }

        private int leaf(int op, int rest, Reading in) {
            switch (op) {
                case OP_NUMBER:
                    return rest;
                case OP_FIELD:
                    return isField(rest) ? in.values[rest] : 0;
                case OP_SIZE:
                    return in.size;
                case OP_DEEP:
                    return in.deep;
                case OP_DAY:
                    return rotDay;
                case OP_PLACE:
                    return rotPlace;
                default:
                    return rotOld;
            }
        }

        private int ofOne(int op, int a, Reading in) {
            if (op == OP_NEGATE) {
                return -a;
            }
            if (op == OP_NOT) {
                return a == 0 ? 1 : 0;
            }
            if (a >= 0 && a < in.size) {
                peeked |= span(in.base + a, in.base + a + 1);
            }
            return byteIn(in, a);
        }

        private static int ofTwo(int op, int a, int b) {
            switch (op) {
                case OP_PLUS:
                    return confined((long) a + b);
                case OP_MINUS:
                    return confined((long) a - b);
                case OP_TIMES:
                    return confined((long) a * b);
                case OP_OVER:
                    return b == 0 ? 0 : confined((long) a / b);
                case OP_AND:
                    return a & b;
                case OP_OR:
                    return a | b;
                default:
                    return compares(op, a, b) ? 1 : 0;
            }
        }

        private static int confined(long value) {
            return (int) Math.max(-HIGHEST, Math.min(HIGHEST, value));
        }

        private static boolean compares(int op, int a, int b) {
            switch (op) {
                case OP_LESS:
                    return a < b;
                case OP_LESS_SAME:
                    return a <= b;
                case OP_MORE:
                    return a > b;
                case OP_MORE_SAME:
                    return a >= b;
                case OP_SAME:
                    return a == b;
                default:
                    return a != b;
            }
        }
    }
}
