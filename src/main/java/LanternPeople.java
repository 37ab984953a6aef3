import java.util.Arrays;

/** A village whose people have had pictures thrown upon them by a magic lantern. */
public final class LanternPeople {
    public static final int NONE = -1;

    /** The answer where all that is named is there, but what is asked for is not. */
    private static final int NOTHING = -2;
    private static final int MOST_SLIDES = 5;
    private static final int MOST_PEOPLE = 6;
    private static final int MOST_WEEKS = 60;
    private static final int FAR_WEEKS = 100;
    private static final int MOST_SEEDS = 20;
    private static final int SLOTS = 3;

    private final Tape tape;
    private final Reader reader;
    private final Scene now;
    private final Scene dream;
    private final Shelf shelf;
    private final Rows rows;
    private final Clues clues;
    private Story story;
    private int faultPlace;

    public LanternPeople() {
        tape = new Tape();
        reader = new Reader(tape);
        story = new Story();
        story.clear();
        now = new Scene(story);
        dream = new Scene(story);
        now.begin(story);
        shelf = new Shelf();
        rows = new Rows();
        clues = new Clues();
        faultPlace = NONE;
    }

    // ---- the text

    public int feed(int a, int b, int c, int d, int e) {
        if (tape.length + 20 > Tape.MOST) {
            return NONE;
        }
        tape.append(a);
        tape.append(b);
        tape.append(c);
        tape.append(d);
        tape.append(e);
        return tape.length;
    }

    public int back(int n) {
        if (n < 0 || n > tape.length) {
            return NONE;
        }
        tape.length -= n;
        return tape.length;
    }

    public int read() {
        reader.start();
        for (int tells = 0; tells <= Tokens.MOST && reader.goesOn(); tells++) {
            reader.readTell();
        }
        tape.length = 0;
        faultPlace = reader.faultPlace();
        int fault = reader.faultNumber();
        if (fault == 0) {
            adopt();
        }
        return fault;
    }

    /** The two stories change places, so that no reading makes a new one. */
    private void adopt() {
        Story old = story;
        story = reader.draft;
        reader.draft = old;
        now.begin(story);
        shelf.clear();
        clues.size = 0;
    }

    public int place() {
        return faultPlace;
    }

    // ---- what is there

    public int slide(int slide, int what) {
        if (!isSlide(slide)) {
            return NONE;
        }
        switch (what) {
            case 0: return story.left[slide];
            case 1: return story.right[slide];
            case 2: return story.bright[slide];
            case 3: return now.showing(slide);
            default: return NONE;
        }
    }

    public int person(int person, int what) {
        if (!isPerson(person)) {
            return NONE;
        }
        switch (what) {
            case 0: return story.warm[person];
            case 1: return now.picture[person];
            case 2: return now.seatOf[person];
            case 3: return now.joins[person];
            case 4: return now.pays(person);
            case 5: return now.washes(person);
            case 6: return now.total[person];
            default: return NONE;
        }
    }

    public int glow(int person, int slide) {
        if (!isPerson(person) || !isSlide(slide)) {
            return NONE;
        }
        return now.glow[Scene.cell(person, slide)];
    }

    public int tells(int person, int slide, int what) {
        if (!isPerson(person) || !isSlide(slide)) {
            return NONE;
        }
        switch (what) {
            case 0: return now.takes(person, slide);
            case 1: return now.fades(person, slide);
            default: return NONE;
        }
    }

    public int join(int person, int other) {
        if (!isPerson(person) || !isPerson(other) || person == other) {
            return NONE;
        }
        return now.meet(person, other) ? 1 : 0;
    }

    public int seat(int seat) {
        return isPerson(seat) ? now.row[seat] : NONE;
    }

    // ---- things done

    public int show(int person, int slide) {
        if (!isPerson(person) || !isSlide(slide)) {
            return NONE;
        }
        shelf.push(now);
        now.throwUpon(person, slide);
        return now.picture[person];
    }

    public int wash(int person) {
        if (!isPerson(person) || now.picture[person] < 0) {
            return NONE;
        }
        shelf.push(now);
        now.rinse(person);
        now.settle();
        return now.total[person];
    }

    public boolean go(int person, int seat) {
        if (!isPerson(person) || !isPerson(seat) || now.seatOf[person] == seat) {
            return false;
        }
        shelf.push(now);
        now.move(person, seat);
        return true;
    }

    public int weeks(int n) {
        if (!isIn(n, 0, MOST_WEEKS)) {
            return NONE;
        }
        if (n > 0) {
            shelf.push(now);
        }
        for (int i = 0; i < n; i++) {
            now.passWeek(story.seed, true);
        }
        return now.week;
    }

    public boolean undo() {
        return shelf.pop(now);
    }

    // ---- rows

    public int bestRow(int i) {
        if (i != NONE && !isPerson(i)) {
            return NONE;
        }
        rows.study(now);
        rows.findBest();
        return i == NONE ? rows.most : rows.kept[i];
    }

    public int fullRows() {
        rows.study(now);
        rows.countFull();
        return rows.full;
    }

    public int rings() {
        rows.study(now);
        rows.countFull();
        return rows.closed;
    }

    public int longest(int i) {
        rows.study(now);
        rows.findLongest();
        if (i == NONE) {
            return rows.most;
        }
        return isIn(i, 0, rows.most - 1) ? rows.kept[i] : NONE;
    }

    public int way(int person, int other) {
        if (!isPerson(person) || !isPerson(other)) {
            return NONE;
        }
        rows.study(now);
        return rows.steps(person, other);
    }

    public int mend(int i) {
        if (i != NONE && !isPerson(i)) {
            return NONE;
        }
        return rows.mended(now, i);
    }

    public int game(int what) {
        if (!isIn(what, 0, 1)) {
            return NONE;
        }
        rows.study(now);
        int whom = rows.winningStart();
        if (what == 1) {
            return whom;
        }
        return whom == NOTHING ? 2 : 1;
    }

    // ---- what would be

    public int best(int person, int what) {
        if (!isPerson(person) || !isIn(what, 0, 1)) {
            return NONE;
        }
        int which = NOTHING;
        int most = NOTHING;
        for (int slide = 0; slide < story.slides; slide++) {
            dream.copyFrom(now);
            dream.throwUpon(person, slide);
            int joined = dream.rowJoins();
            if (joined > most) {
                most = joined;
                which = slide;
            }
        }
        return what == 0 ? which : most;
    }

    public int where(int person, int what) {
        if (!isPerson(person) || !isIn(what, 0, 1)) {
            return NONE;
        }
        int which = NONE;
        int most = NONE;
        for (int seat = 0; seat < story.people; seat++) {
            dream.copyFrom(now);
            dream.move(person, seat);
            int joined = dream.rowJoins();
            if (joined > most) {
                most = joined;
                which = seat;
            }
        }
        return what == 0 ? which : most;
    }

    public int worth(int n) {
        if (!isIn(n, 0, MOST_WEEKS)) {
            return NONE;
        }
        dreamOn(n, false);
        return dream.paid - now.paid;
    }

    public int plainIn(int person) {
        if (!isPerson(person)) {
            return NONE;
        }
        dream.copyFrom(now);
        for (int n = 0; n < FAR_WEEKS && dream.picture[person] >= 0; n++) {
            dream.passWeek(story.seed, false);
        }
        return dream.picture[person] < 0 ? dream.week - now.week : NOTHING;
    }

    public int turns(int person) {
        if (!isPerson(person)) {
            return NONE;
        }
        int first = now.picture[person];
        if (first < 0) {
            return NOTHING;
        }
        dream.copyFrom(now);
        for (int n = 0; n < FAR_WEEKS && dream.picture[person] == first; n++) {
            dream.passWeek(story.seed, false);
        }
        return dream.picture[person] != first ? dream.week - now.week : NOTHING;
    }

    public int like(int person) {
        if (!isPerson(person)) {
            return NONE;
        }
        int slide = now.picture[person];
        return slide < 0 ? 0 : now.showing(slide) & ~(1 << person);
    }

    public int lonely() {
        rows.study(now);
        return rows.lonelyOnes();
    }

    public int brightest(int what) {
        if (!isIn(what, 0, 1)) {
            return NONE;
        }
        int who = NOTHING;
        int most = 0;
        for (int p = 0; p < story.people; p++) {
            int shine = now.shine(p);
            if (shine > most) {
                most = shine;
                who = p;
            }
        }
        return what == 0 || who == NOTHING ? who : most;
    }

    public int open() {
        int bits = 0;
        for (int seat = 0; seat + 1 < story.people; seat++) {
            if (!now.meet(now.row[seat], now.row[seat + 1])) {
                bits |= 1 << seat;
            }
        }
        return bits;
    }

    public int share(int person) {
        if (!isPerson(person)) {
            return NONE;
        }
        int all = now.total[person];
        return all <= 0 ? 0 : now.shine(person) * 1000 / all;
    }

    public int then(int person, int n) {
        if (!isPerson(person) || !isIn(n, 0, MOST_WEEKS)) {
            return NONE;
        }
        dreamOn(n, true);
        return dream.picture[person];
    }

    public int paidIn(int n) {
        if (!isIn(n, 0, MOST_WEEKS)) {
            return NONE;
        }
        dreamOn(n, true);
        return dream.paid;
    }

    public int year(int person, int n, int s) {
        if (!isPerson(person) || !isIn(n, 0, MOST_WEEKS) || !isIn(s, 1, MOST_SEEDS)) {
            return NONE;
        }
        int plain = 0;
        for (int i = 0; i < s; i++) {
            dream.copyFrom(now);
            // No glow grows in a week: who is plain stays so, and the rest need not be gone through.
            for (int k = 0; k < n && dream.picture[person] >= 0; k++) {
                dream.passWeek(story.seed + i, true);
            }
            if (dream.picture[person] < 0) {
                plain++;
            }
        }
        return plain;
    }

    // ---- which picture one had

    public int tell(int mark, int v, boolean so) {
        if (!isIn(mark, 0, Clues.MARKS - 1) || !isIn(v, 0, Clues.HIGHEST)) {
            return NONE;
        }
        return clues.add(mark, v, so);
    }

    public int forget() {
        int were = clues.size;
        clues.size = 0;
        return were;
    }

    public int which(int k, int what) {
        if (!isIn(k, 0, clues.size) || !isIn(what, 0, 1)) {
            return NONE;
        }
        int left = clues.fitting(now, k);
        return what == 0 ? Integer.bitCount(left) : left;
    }

    public int look(int k, int v) {
        if (!isIn(k, 0, clues.size) || !isIn(v, 0, Clues.HIGHEST)) {
            return NONE;
        }
        return clues.bestMark(now, k, v);
    }

    // ---- slots

    public boolean hold(int slot) {
        if (!isIn(slot, 0, SLOTS - 1)) {
            return false;
        }
        shelf.holdIn(slot, now);
        return true;
    }

    public boolean restore(int slot) {
        if (!isIn(slot, 0, SLOTS - 1)) {
            return false;
        }
        return shelf.goOnFrom(slot, now);
    }

    // ---- counts

    public int count(int what) {
        switch (what) {
            case 0: return story.slides;
            case 1: return story.people;
            case 2: return now.week;
            case 3: return now.rowJoins();
            case 4: return now.plainOnes();
            case 5: return now.allPays();
            case 6: return now.paid;
            case 7: return now.allGlows();
            case 8: return tape.length;
            case 9: return shelf.things;
            case 10: return clues.size;
            case 11: return Integer.bitCount(shelf.held);
            default: return countMore(what);
        }
    }

    private int countMore(int what) {
        switch (what) {
            case 12: return now.pictures();
            case 13: return now.washers(story.seed);
            case 14: return allMeetings();
            case 15: return story.allWarm();
            case 16: return now.twiceJoined();
            case 17: return Integer.bitCount(lonely());
            default: return NONE;
        }
    }

    private int allMeetings() {
        rows.study(now);
        return rows.meetings();
    }

    // ---- small helps

    private boolean isPerson(int n) {
        return n >= 0 && n < story.people;
    }

    private boolean isSlide(int n) {
        return n >= 0 && n < story.slides;
    }

    private static boolean isIn(int n, int low, int high) {
        return n >= low && n <= high;
    }

    private void dreamOn(int n, boolean washing) {
        dream.copyFrom(now);
        for (int i = 0; i < n; i++) {
            dream.passWeek(story.seed, washing);
        }
    }

    /** The bytes that were fed and not yet read. */
    private static final class Tape {
        static final int MOST = 2000;

        final byte[] bytes = new byte[MOST];
        int length;

        /** Four bytes, the highest first. */
        void append(int four) {
            for (int shift = 24; shift >= 0 && length < MOST; shift -= 8) {
                bytes[length] = (byte) (four >>> shift);
                length++;
            }
        }
    }

    /** The tokens of a tape. A sign's kind is its own byte; a word's is WORD and its number. */
    private static final class Tokens {
        static final int MOST = 400;
        static final int END = 0;
        static final int BAD = 1;
        static final int NAME = 2;
        static final int INT = 3;
        static final int WORD = 128;
        static final int SLIDE = WORD;
        static final int PERSON = WORD + 1;
        static final int SHOWN = WORD + 2;
        static final int TAKES = WORD + 3;
        static final int FADES = WORD + 4;
        static final int PAYS = WORD + 5;
        static final int WASHES = WORD + 6;
        static final int SEED = WORD + 7;
        static final int IF = WORD + 8;
        static final int THEN = WORD + 9;
        static final int ELSE = WORD + 10;
        static final int FIRST_VAR = WORD + 11;
        static final int LAST_VAR = WORD + 19;

        private static final int LETTERS = 8;
        private static final int DIGITS = 4;
        private static final int WORDS = 20;
        /** Words in the order of their numbers, each filled up with blanks to eight signs. */
        private static final String WORD_LIST =
            "slide   person  shown   takes   fades   pays    washes  seed    if      then    else    glow    warm    bright  week    seat    joins   which   others  slides  ";
        private static final String SIGNS = ";=+-*/<()";

        // One more than the most, so that the first that is too many is seen, and the end.
        final int[] kinds = new int[MOST + 2];
        final int[] places = new int[MOST + 2];
        final long[] values = new long[MOST + 2];
        private final Tape tape;
        private int size;

        Tokens(Tape source) {
            tape = source;
        }

        /** Ends behind what is no token: nothing behind it is ever looked at. */
        void scan() {
            int length = tape.length;
            size = 0;
            int at = 0;
            boolean good = true;
            while (at < length && size <= MOST && good) {
                int here = byteAt(at);
                if (isBlank(here)) {
                    at++;
                } else {
                    places[size] = at;
                    at = scanOne(at, here);
                    good = kinds[size] != BAD;
                    size++;
                }
            }
            kinds[size] = END;
            places[size] = length;
        }

        /** Scans the token that begins here: where it ends. */
        private int scanOne(int at, int here) {
            if (isLetter(here)) {
                return scanLetters(at);
            }
            if (isDigit(here)) {
                return scanDigits(at);
            }
            kinds[size] = here < WORD && SIGNS.indexOf((char) here) >= 0 ? here : BAD;
            return at + 1;
        }

        private int scanLetters(int from) {
            int end = from;
            long name = 0;
            while (end < tape.length && isLetter(byteAt(end))) {
                name = name * 32 + byteAt(end) - 'a' + 1;
                end++;
            }
            values[size] = name;
            kinds[size] = end - from > LETTERS ? BAD : kindOfLetters(from, end - from);
            return end;
        }

        private int kindOfLetters(int from, int letters) {
            for (int word = 0; word < WORDS; word++) {
                if (isWord(word, from, letters)) {
                    return WORD + word;
                }
            }
            return NAME;
        }

        private boolean isWord(int word, int from, int letters) {
            for (int i = 0; i < LETTERS; i++) {
                int here = i < letters && from + i < Tape.MOST ? tape.bytes[from + i] : ' ';
                if (WORD_LIST.charAt(word * LETTERS + i) != here) {
                    return false;
                }
            }
            return true;
        }

        private int scanDigits(int from) {
            int end = from;
            long number = 0;
            while (end < tape.length && isDigit(byteAt(end))) {
                number = number * 10 + byteAt(end) - '0';
                end++;
            }
            values[size] = number;
            kinds[size] = end - from > DIGITS ? BAD : INT;
            return end;
        }

        private int byteAt(int at) {
            return at >= 0 && at < tape.length ? tape.bytes[at] & 255 : 0;
        }

        private static boolean isBlank(int here) {
            return here == 9 || here == 10 || here == 13 || here == 32;
        }

        private static boolean isLetter(int here) {
            return here >= 'a' && here <= 'z';
        }

        private static boolean isDigit(int here) {
            return here >= '0' && here <= '9';
        }
    }

    /** What a text tells. Laws are kept as code for a stack: what is not below 0 is a number. */
    private static final class Story {
        static final int MOST_SHOWN = 20;
        static final int LAWS = 4;
        /** The code of a var is this less its number. */
        static final int VAR = -1;
        static final int ADD = -11;
        static final int LESS = -12;
        static final int TIMES = -13;
        static final int BY = -14;
        /** The law's value is on the stack. */
        static final int VALUE = -15;
        /** Goes on at the place that stands behind it, unless the first of two is less. */
        static final int UNLESS = -16;
        /** No token makes more than one number of code; the laws that are not told make the rest. */
        static final int MOST_CODE = Tokens.MOST + 2 * LAWS;
        static final int GLOW_VAR = 0;
        static final int BRIGHT_VAR = 2;

        final int[] left = new int[MOST_SLIDES];
        final int[] right = new int[MOST_SLIDES];
        final int[] bright = new int[MOST_SLIDES];
        final int[] warm = new int[MOST_PEOPLE];
        final int[] shownPerson = new int[MOST_SHOWN];
        final int[] shownSlide = new int[MOST_SHOWN];
        final int[] code = new int[MOST_CODE];
        final int[] start = new int[LAWS];
        int slides;
        int people;
        int shown;
        int seed;
        int size;

        void clear() {
            slides = 0;
            people = 0;
            shown = 0;
            seed = 0;
            size = 0;
            addPlainLaw(0, VAR - BRIGHT_VAR);
            addPlainLaw(1, 1);
            addPlainLaw(2, VAR - GLOW_VAR);
            addPlainLaw(3, 0);
        }

        private void addPlainLaw(int law, int value) {
            beginLaw(law);
            emit(value);
            emit(VALUE);
        }

        void beginLaw(int law) {
            if (law >= 0 && law < LAWS) {
                start[law] = size;
            }
        }

        void emit(int part) {
            if (size < MOST_CODE) {
                code[size] = part;
                size++;
            }
        }

        /** What was left open at a place is known: it goes on here. */
        void goOnHere(int place) {
            if (place >= 0 && place < MOST_CODE) {
                code[place] = size;
            }
        }

        void addSlide(int leftEdge, int rightEdge, int brightness) {
            if (slides < MOST_SLIDES) {
                left[slides] = leftEdge;
                right[slides] = rightEdge;
                bright[slides] = brightness;
                slides++;
            }
        }

        void addPerson(int warmth) {
            if (people < MOST_PEOPLE) {
                warm[people] = warmth;
                people++;
            }
        }

        void addShown(int person, int slide) {
            if (shown < MOST_SHOWN) {
                shownPerson[shown] = person;
                shownSlide[shown] = slide;
                shown++;
            }
        }

        int allWarm() {
            int sum = 0;
            for (int p = 0; p < people; p++) {
                sum += warm[p];
            }
            return sum;
        }
    }

    /** Reads a tape into its draft of a story; whoever takes the draft puts another in its place. */
    private static final class Reader {
        private static final int SYNTAX = 1;
        private static final int ROOM = 2;
        private static final int TWICE = 3;
        private static final int UNKNOWN = 4;
        private static final int WRONG = 5;
        private static final int MOST_IFS = 4;
        private static final int MOST_OPEN = 6;
        /** Within each ( a sum and a product may wait, and the ( itself. */
        private static final int MOST_WAITING = 3 * (MOST_OPEN + 1);

        Story draft = new Story();
        private final Tokens tokens;
        private final long[] slideNames = new long[MOST_SLIDES];
        private final long[] personNames = new long[MOST_PEOPLE];
        private final int[] waiting = new int[MOST_WAITING];
        private int waits;
        private int opened;
        private int at;
        private int fault;
        private int place;
        private int lateFault;
        private int latePlace;

        Reader(Tape tape) {
            tokens = new Tokens(tape);
        }

        void start() {
            draft.clear();
            tokens.scan();
            at = 0;
            fault = 0;
            place = NONE;
            lateFault = 0;
            latePlace = NONE;
        }

        boolean goesOn() {
            return fault == 0 && kind() != Tokens.END;
        }

        int faultNumber() {
            return fault != 0 ? fault : lateFault;
        }

        int faultPlace() {
            return fault != 0 ? place : latePlace;
        }

        void readTell() {
            int word = kind();
            switch (word) {
                case Tokens.SLIDE:
                    readSlide();
                    break;
                case Tokens.PERSON:
                    readPerson();
                    break;
                case Tokens.SHOWN:
                    readShown();
                    break;
                case Tokens.TAKES:
                case Tokens.FADES:
                case Tokens.PAYS:
                case Tokens.WASHES:
                    readLaw(word - Tokens.TAKES);
                    break;
                case Tokens.SEED:
                    take(true);
                    draft.seed = number(0, 9999);
                    break;
                default:
                    fail(SYNTAX);
                    break;
            }
            take(kind() == ';');
        }

        private void readSlide() {
            int n = draft.slides;
            if (n >= MOST_SLIDES) {
                fail(ROOM);
                return;
            }
            take(true);
            slideNames[n] = newName();
            int left = number(0, 5);
            int right = number(0, 5);
            int bright = number(1, 20);
            draft.addSlide(left, right, bright);
        }

        private void readPerson() {
            int n = draft.people;
            if (n >= MOST_PEOPLE) {
                fail(ROOM);
                return;
            }
            take(true);
            personNames[n] = newName();
            draft.addPerson(number(0, 9));
        }

        private void readShown() {
            if (draft.shown >= Story.MOST_SHOWN) {
                fail(ROOM);
                return;
            }
            take(true);
            int person = knownName(personNames, draft.people);
            int slide = knownName(slideNames, draft.slides);
            draft.addShown(person, slide);
        }

        private long newName() {
            if (!take(kind() == Tokens.NAME)) {
                return 0;
            }
            long name = tokens.values[at - 1];
            if (find(name, slideNames, draft.slides) >= 0 || find(name, personNames, draft.people) >= 0) {
                failLate(TWICE);
            }
            return name;
        }

        private int knownName(long[] names, int size) {
            if (!take(kind() == Tokens.NAME)) {
                return NONE;
            }
            int found = find(tokens.values[at - 1], names, size);
            if (found < 0) {
                failLate(UNKNOWN);
            }
            return found;
        }

        private static int find(long name, long[] names, int size) {
            for (int i = 0; i < size && i < names.length; i++) {
                if (names[i] == name) {
                    return i;
                }
            }
            return NONE;
        }

        private int number(int low, int high) {
            if (!take(kind() == Tokens.INT)) {
                return low;
            }
            int number = (int) tokens.values[at - 1];
            if (number < low || number > high) {
                failLate(WRONG);
            }
            return number;
        }

        private void readLaw(int law) {
            take(true);
            take(kind() == '=');
            draft.beginLaw(law);
            for (int ifs = 0; ifs <= MOST_IFS && fault == 0 && kind() == Tokens.IF; ifs++) {
                if (ifs == MOST_IFS) {
                    fail(ROOM);
                    return;
                }
                take(true);
                readSum();
                take(kind() == '<');
                readSum();
                take(kind() == Tokens.THEN);
                draft.emit(Story.UNLESS);
                int hole = draft.size;
                draft.emit(0);
                readSum();
                take(kind() == Tokens.ELSE);
                draft.emit(Story.VALUE);
                draft.goOnHere(hole);
            }
            readSum();
            draft.emit(Story.VALUE);
        }

        /** An E, up to the token that does not go on in it; signs wait till what they bind is there. */
        private void readSum() {
            waits = 0;
            opened = 0;
            boolean wantsUnit = true;
            boolean goesOn = true;
            for (int steps = 0; steps <= Tokens.MOST && goesOn && fault == 0; steps++) {
                if (wantsUnit) {
                    wantsUnit = readUnitOrOpen();
                } else if (kind() == ')' && opened > 0) {
                    closeBracket();
                } else if (strength(kind()) > 0) {
                    release(strength(kind()));
                    await(kind());
                    take(true);
                    wantsUnit = true;
                } else {
                    goesOn = false;
                }
            }
            if (opened > 0) {
                fail(SYNTAX);
            }
            release(1);
        }

        /** Whether a unit is still wanted behind this token. */
        private boolean readUnitOrOpen() {
            int kind = kind();
            if (kind == '(') {
                if (opened >= MOST_OPEN) {
                    fail(ROOM);
                    return true;
                }
                opened++;
                await(kind);
                take(true);
                return true;
            }
            boolean isVar = kind >= Tokens.FIRST_VAR && kind <= Tokens.LAST_VAR;
            if (take(kind == Tokens.INT || isVar)) {
                draft.emit(isVar ? Story.VAR - (kind - Tokens.FIRST_VAR) : (int) tokens.values[at - 1]);
            }
            return false;
        }

        private void closeBracket() {
            take(true);
            release(1);
            if (waits > 0) {
                waits--;
            }
            opened--;
        }

        private void await(int sign) {
            if (waits < MOST_WAITING) {
                waiting[waits] = sign;
                waits++;
            }
        }

        /** Signs that bind as strongly or more come into the code, the latest first, as far as a (. */
        private void release(int least) {
            while (waits > 0 && strength(waiting[waits - 1]) >= least) {
                waits--;
                draft.emit(codeOf(waiting[waits]));
            }
        }

        private static int strength(int sign) {
            switch (sign) {
                case '+':
                case '-':
                    return 1;
                case '*':
                case '/':
                    return 2;
                default:
                    return 0;
            }
        }

        private static int codeOf(int sign) {
            switch (sign) {
                case '+': return Story.ADD;
                case '-': return Story.LESS;
                case '*': return Story.TIMES;
                default: return Story.BY;
            }
        }

        private int kind() {
            return at >= 0 && at <= Tokens.MOST ? tokens.kinds[at] : Tokens.END;
        }

        /** Goes past the token that is next, if it fits and there is room for it. */
        private boolean take(boolean fits) {
            if (!fits) {
                fail(SYNTAX);
            } else if (at >= Tokens.MOST) {
                fail(ROOM);
            }
            if (fault != 0) {
                return false;
            }
            at++;
            return true;
        }

        /** The first fault stands: all is read from the left. */
        private void fail(int number) {
            if (fault == 0 && at >= 0 && at <= Tokens.MOST) {
                fault = number;
                place = tokens.places[at];
            }
        }

        /** A fault of the token just passed that counts only if the text has none of the others. */
        private void failLate(int number) {
            if (lateFault == 0 && at > 0) {
                lateFault = number;
                latePlace = tokens.places[at - 1];
            }
        }
    }

    /** How it is in the village at a time: what glows on whom, and who stands where. */
    private static final class Scene {
        static final int CELLS = MOST_PEOPLE * MOST_SLIDES;

        private static final int TAKES = 0;
        private static final int FADES = 1;
        private static final int PAYS = 2;
        private static final int WASHES = 3;
        private static final int BRIGHTEST = 99;
        /** Each of six ( lets two wait, the first E of an if one more. */
        private static final int MOST_STACK = 32;

        final int[] glow = new int[CELLS];
        final int[] row = new int[MOST_PEOPLE];
        int week;
        int paid;

        // What follows from the ones above: settle() finds it.
        final int[] seatOf = new int[MOST_PEOPLE];
        final int[] picture = new int[MOST_PEOPLE];
        final int[] total = new int[MOST_PEOPLE];
        final int[] joins = new int[MOST_PEOPLE];

        private final int[] less = new int[CELLS];
        private final int[] stack = new int[MOST_STACK];
        Story story;

        Scene(Story told) {
            story = told;
        }

        static int cell(int person, int slide) {
            return person * MOST_SLIDES + slide;
        }

        void begin(Story told) {
            story = told;
            week = 0;
            paid = 0;
            Arrays.fill(glow, 0);
            for (int seat = 0; seat < MOST_PEOPLE; seat++) {
                row[seat] = seat;
            }
            settle();
            for (int i = 0; i < told.shown; i++) {
                throwUpon(told.shownPerson[i], told.shownSlide[i]);
            }
        }

        void copyFrom(Scene other) {
            story = other.story;
            week = other.week;
            paid = other.paid;
            System.arraycopy(other.glow, 0, glow, 0, CELLS);
            System.arraycopy(other.row, 0, row, 0, MOST_PEOPLE);
            settle();
        }

        void settle() {
            for (int p = 0; p < story.people; p++) {
                settlePicture(p);
                seatOf[row[p]] = p;
                joins[p] = 0;
            }
            for (int seat = 0; seat + 1 < story.people; seat++) {
                int here = row[seat];
                int next = row[seat + 1];
                if (meet(here, next)) {
                    joins[here]++;
                    joins[next]++;
                }
            }
        }

        private void settlePicture(int person) {
            int which = NOTHING;
            int most = 0;
            int sum = 0;
            for (int s = 0; s < story.slides; s++) {
                int here = glow[cell(person, s)];
                sum += here;
                if (here > most) {
                    most = here;
                    which = s;
                }
            }
            picture[person] = which;
            total[person] = sum;
        }

        boolean meet(int first, int other) {
            int a = picture[first];
            int b = picture[other];
            return a >= 0 && b >= 0 && story.right[a] == story.left[b];
        }

        int rowJoins() {
            int sum = 0;
            for (int p = 0; p < story.people; p++) {
                sum += joins[p];
            }
            // Each is counted by both who stand there.
            return sum / 2;
        }

        /** How much the picture of a person glows. */
        int shine(int person) {
            int slide = picture[person];
            return slide < 0 ? 0 : glow[cell(person, slide)];
        }

        // ---- laws

        int takes(int person, int slide) {
            return held(lawOf(TAKES, person, slide), BRIGHTEST);
        }

        int fades(int person, int slide) {
            return held(lawOf(FADES, person, slide), BRIGHTEST);
        }

        int pays(int person) {
            int slide = picture[person];
            return slide < 0 ? 0 : held(lawOf(PAYS, person, slide), 99);
        }

        int washes(int person) {
            return held(lawOf(WASHES, person, picture[person]), 100);
        }

        private static int held(int value, int most) {
            return Math.max(0, Math.min(most, value));
        }

        /** What a law tells of a person and a slide; the slide is below 0 where a plain one has none. */
        private int lawOf(int law, int person, int slide) {
            int[] code = story.code;
            int here = slide >= 0 ? glow[cell(person, slide)] : 0;
            int at = story.start[law];
            int top = 0;
            for (int steps = 0; steps < Story.MOST_CODE && at >= 0 && at < story.size; steps++) {
                int part = code[at];
                at++;
                if (part > Story.ADD) {
                    if (top >= MOST_STACK) {
                        return 0;
                    }
                    stack[top] = part >= 0 ? part : varOf(Story.VAR - part, person, slide, here);
                    top++;
                } else if (part == Story.VALUE) {
                    return top > 0 ? stack[top - 1] : 0;
                } else {
                    if (top < 2 || at >= story.size) {
                        return 0;
                    }
                    top -= 2;
                    int first = stack[top];
                    int other = stack[top + 1];
                    if (part == Story.UNLESS) {
                        at = first < other ? at + 1 : code[at];
                    } else if (part == Story.BY && other == 0) {
                        return 0;
                    } else {
                        stack[top] = reckon(part, first, other);
                        top++;
                    }
                }
            }
            return 0;
        }

        private static int reckon(int part, int first, int other) {
            switch (part) {
                case Story.ADD: return first + other;
                case Story.LESS: return first - other;
                case Story.TIMES: return first * other;
                default: return other == 0 ? 0 : first / other;
            }
        }

        private int varOf(int number, int person, int slide, int here) {
            switch (number) {
                case 0: return here;
                case 1: return story.warm[person];
                case 2: return slide >= 0 ? story.bright[slide] : 0;
                case 3: return week;
                case 4: return seatOf[person];
                case 5: return joins[person];
                case 6: return Math.max(slide, 0);
                case 7: return total[person] - here;
                default: return story.slides;
            }
        }

        // ---- what happens

        void throwUpon(int person, int slide) {
            int at = cell(person, slide);
            if (at < 0 || at >= CELLS) {
                return;
            }
            glow[at] = Math.min(BRIGHTEST, glow[at] + takes(person, slide));
            settle();
        }

        /** Each glow on one is half; the caller settles. */
        void rinse(int person) {
            for (int s = 0; s < story.slides; s++) {
                glow[cell(person, s)] /= 2;
            }
        }

        void move(int person, int seat) {
            int from = seatOf[person];
            for (int i = from; i < seat; i++) {
                row[i] = row[i + 1];
            }
            for (int i = from; i > seat; i--) {
                row[i] = row[i - 1];
            }
            row[seat] = person;
            settle();
        }

        void passWeek(int seed, boolean washing) {
            paid += allPays();
            int washed = washing ? washers(seed) : 0;
            for (int p = 0; p < story.people; p++) {
                for (int s = 0; s < story.slides; s++) {
                    // What does not glow stays so, whatever its law tells.
                    less[cell(p, s)] = glow[cell(p, s)] > 0 ? fades(p, s) : 0;
                }
            }
            for (int p = 0; p < story.people; p++) {
                for (int s = 0; s < story.slides; s++) {
                    glow[cell(p, s)] = Math.max(0, glow[cell(p, s)] - less[cell(p, s)]);
                }
                if ((washed >> p & 1) == 1) {
                    rinse(p);
                }
            }
            week++;
            settle();
        }

        /** Who would wash this week (bits). */
        int washers(int seed) {
            int bits = 0;
            for (int p = 0; p < story.people; p++) {
                if (lotOfHundred(seed, 8 * week + p) < washes(p)) {
                    bits |= 1 << p;
                }
            }
            return bits;
        }

        private static int lotOfHundred(int seed, int which) {
            return (mix(mix(seed, 205), which) >>> 1) % 100;
        }

        private static int mix(int h, int it) {
            int mixed = (h ^ it) * 1103515245 + 12345;
            return mixed ^ (mixed >>> 15);
        }

        // ---- sums and bits

        int allPays() {
            int sum = 0;
            for (int p = 0; p < story.people; p++) {
                sum += pays(p);
            }
            return sum;
        }

        int allGlows() {
            int sum = 0;
            for (int p = 0; p < story.people; p++) {
                sum += total[p];
            }
            return sum;
        }

        int plainOnes() {
            return showing(NOTHING);
        }

        /** On whom a slide is the picture (bits). */
        int showing(int slide) {
            int bits = 0;
            for (int p = 0; p < story.people; p++) {
                if (picture[p] == slide) {
                    bits |= 1 << p;
                }
            }
            return bits;
        }

        int pictures() {
            int bits = 0;
            for (int s = 0; s < story.slides; s++) {
                if (showing(s) != 0) {
                    bits |= 1 << s;
                }
            }
            return bits;
        }

        int twiceJoined() {
            int bits = 0;
            for (int p = 0; p < story.people; p++) {
                if (joins[p] == 2) {
                    bits |= 1 << p;
                }
            }
            return bits;
        }
    }

    /** Scenes put by: the ones that can be gone back to, the latest last, and the slots. */
    private static final class Shelf {
        private static final int MOST_THINGS = 40;
        private static final int SIZE = 2 + MOST_PEOPLE + Scene.CELLS;

        int things;
        /** Slots that hold something (bits). */
        int held;
        private int oldest;
        private final int[] cells = new int[(MOST_THINGS + SLOTS) * SIZE];

        void clear() {
            things = 0;
            held = 0;
        }

        void push(Scene scene) {
            if (things == MOST_THINGS) {
                oldest = (oldest + 1) % MOST_THINGS;
            } else {
                things++;
            }
            put((oldest + things - 1) % MOST_THINGS, scene);
        }

        boolean pop(Scene scene) {
            if (things <= 0) {
                return false;
            }
            things--;
            get((oldest + things) % MOST_THINGS, scene);
            return true;
        }

        void holdIn(int slot, Scene scene) {
            put(MOST_THINGS + slot, scene);
            held |= 1 << slot;
        }

        boolean goOnFrom(int slot, Scene scene) {
            if ((held >> slot & 1) == 0) {
                return false;
            }
            get(MOST_THINGS + slot, scene);
            things = 0;
            return true;
        }

        private void put(int where, Scene scene) {
            int at = where * SIZE;
            cells[at] = scene.week;
            cells[at + 1] = scene.paid;
            System.arraycopy(scene.row, 0, cells, at + 2, MOST_PEOPLE);
            System.arraycopy(scene.glow, 0, cells, at + 2 + MOST_PEOPLE, Scene.CELLS);
        }

        private void get(int where, Scene scene) {
            int at = where * SIZE;
            scene.week = cells[at];
            scene.paid = cells[at + 1];
            System.arraycopy(cells, at + 2, scene.row, 0, MOST_PEOPLE);
            System.arraycopy(cells, at + 2 + MOST_PEOPLE, scene.glow, 0, Scene.CELLS);
            scene.settle();
        }
    }

    /** Rows that could be: who can stand on the right of whom, and what follows from that. */
    private static final class Rows {
        private static final int FAR = 1000;

        int most;
        int full;
        int closed;
        final int[] kept = new int[MOST_PEOPLE];
        private int people;
        private int shown;
        private final int[] next = new int[MOST_PEOPLE];
        private final int[] trial = new int[MOST_PEOPLE];
        private final int[] cost = new int[Scene.CELLS];

        void study(Scene scene) {
            people = scene.story.people;
            shown = 0;
            for (int p = 0; p < people; p++) {
                next[p] = 0;
                if (scene.picture[p] >= 0) {
                    shown |= 1 << p;
                }
                for (int q = 0; q < people; q++) {
                    if (p != q && scene.meet(p, q)) {
                        next[p] |= 1 << q;
                    }
                }
            }
        }

        private static boolean has(int bits, int n) {
            return (bits >> n & 1) == 1;
        }

        int meetings() {
            int sum = 0;
            for (int p = 0; p < people; p++) {
                sum += Integer.bitCount(next[p]);
            }
            return sum;
        }

        int lonelyOnes() {
            int befriended = 0;
            for (int p = 0; p < people; p++) {
                if (next[p] != 0) {
                    befriended |= next[p] | 1 << p;
                }
            }
            return ((1 << people) - 1) & ~befriended;
        }

        // Rows are tried in the order of their numbers, so the first of alike ones is met first.

        void findBest() {
            most = NONE;
            tryBest(0, 0, 0);
        }

        private void tryBest(int depth, int used, int joins) {
            if (depth >= people) {
                if (joins > most) {
                    keep(depth, joins);
                }
                return;
            }
            // As many as can still come would not be more.
            if (joins + people - Math.max(depth, 1) <= most) {
                return;
            }
            for (int p = 0; p < people; p++) {
                if (!has(used, p)) {
                    trial[depth] = p;
                    int more = depth > 0 && has(next[trial[depth - 1]], p) ? 1 : 0;
                    tryBest(depth + 1, used | 1 << p, joins + more);
                }
            }
        }

        private void keep(int length, int score) {
            most = score;
            System.arraycopy(trial, 0, kept, 0, length);
        }

        void countFull() {
            full = 0;
            closed = 0;
            tryFull(0, 0);
        }

        private void tryFull(int depth, int used) {
            if (depth >= people) {
                full++;
                if (depth > 1 && has(next[trial[depth - 1]], trial[0])) {
                    closed++;
                }
                return;
            }
            for (int p = 0; p < people; p++) {
                if (canFollow(depth, used, p)) {
                    trial[depth] = p;
                    tryFull(depth + 1, used | 1 << p);
                }
            }
        }

        void findLongest() {
            most = 0;
            tryLongest(0, 0);
        }

        private void tryLongest(int depth, int used) {
            if (depth > most) {
                keep(depth, depth);
            }
            if (depth >= people) {
                return;
            }
            for (int p = 0; p < people; p++) {
                if (canFollow(depth, used, p)) {
                    trial[depth] = p;
                    tryLongest(depth + 1, used | 1 << p);
                }
            }
        }

        private boolean canFollow(int depth, int used, int person) {
            return !has(used, person) && (depth == 0 || has(next[trial[depth - 1]], person));
        }

        int steps(int from, int to) {
            int reached = 1 << from;
            for (int n = 0; n < people; n++) {
                if (has(reached, to)) {
                    return n;
                }
                reached |= allNext(reached);
            }
            return NOTHING;
        }

        private int allNext(int bits) {
            int all = 0;
            for (int p = 0; p < people; p++) {
                if (has(bits, p)) {
                    all |= next[p];
                }
            }
            return all;
        }

        /** The lowest by whom the one who begins wins. */
        int winningStart() {
            for (int p = 0; p < people; p++) {
                if (has(shown, p) && !canWin(p, 1 << p, 1)) {
                    return p;
                }
            }
            return NOTHING;
        }

        /** Whether the one wins who is to put somebody behind the last. */
        private boolean canWin(int last, int used, int depth) {
            for (int p = 0; p < people && depth < people; p++) {
                if (has(next[last] & ~used, p) && !canWin(p, used | 1 << p, depth + 1)) {
                    return true;
                }
            }
            return false;
        }

        /** Upon how few a slide must be put, or which then shows at a seat. */
        int mended(Scene scene, int seat) {
            Story story = scene.story;
            if (story.people == 0) {
                return 0;
            }
            weigh(scene);
            int slide = cheapest(story, 0, NONE);
            if (slide < 0) {
                return NOTHING;
            }
            if (seat == NONE) {
                return cost[Scene.cell(0, slide)];
            }
            for (int i = 1; i <= seat && slide >= 0; i++) {
                slide = cheapest(story, i, story.right[slide]);
            }
            return slide;
        }

        /** What each slide at each seat costs, from there on. */
        private void weigh(Scene scene) {
            Story story = scene.story;
            for (int seat = story.people - 1; seat >= 0; seat--) {
                for (int s = 0; s < story.slides; s++) {
                    int sum = scene.picture[scene.row[seat]] == s ? 0 : 1;
                    if (seat + 1 < story.people) {
                        int after = cheapest(story, seat + 1, story.right[s]);
                        sum += after < 0 ? FAR : cost[Scene.cell(seat + 1, after)];
                    }
                    cost[Scene.cell(seat, s)] = sum;
                }
            }
        }

        /** The lowest of the cheapest slides at a seat with a left edge (NONE: any). */
        private int cheapest(Story story, int seat, int edge) {
            int which = NOTHING;
            int least = FAR;
            for (int s = 0; s < story.slides; s++) {
                int here = cost[Scene.cell(seat, s)];
                if ((edge == NONE || story.left[s] == edge) && here < least) {
                    least = here;
                    which = s;
                }
            }
            return which;
        }
    }

    /** What was told of a slide unknown. */
    private static final class Clues {
        static final int MARKS = 4;
        static final int HIGHEST = 20;

        private static final int MOST = 20;

        int size;
        private final int[] marks = new int[MOST];
        private final int[] bounds = new int[MOST];
        private final boolean[] sides = new boolean[MOST];

        int add(int mark, int v, boolean so) {
            if (size >= MOST) {
                return NONE;
            }
            marks[size] = mark;
            bounds[size] = v;
            sides[size] = so;
            size++;
            return size - 1;
        }

        /** The slides of which the first k told ones are so (bits). */
        int fitting(Scene scene, int k) {
            int bits = (1 << scene.story.slides) - 1;
            for (int i = 0; i < k && i < size; i++) {
                int upper = reaching(scene, marks[i], bounds[i]);
                bits &= sides[i] ? upper : ~upper;
            }
            return bits;
        }

        int bestMark(Scene scene, int k, int v) {
            int left = fitting(scene, k);
            if (left == 0) {
                return NOTHING;
            }
            int best = 0;
            int least = MOST_SLIDES + 1;
            for (int mark = 0; mark < MARKS; mark++) {
                int upper = reaching(scene, mark, v);
                int worst = Math.max(Integer.bitCount(left & upper), Integer.bitCount(left & ~upper));
                if (worst < least) {
                    least = worst;
                    best = mark;
                }
            }
            return best;
        }

        /** The slides of which a mark is v or more (bits). */
        private static int reaching(Scene scene, int mark, int v) {
            int bits = 0;
            for (int s = 0; s < scene.story.slides; s++) {
                if (markOf(scene, s, mark) >= v) {
                    bits |= 1 << s;
                }
            }
            return bits;
        }

        private static int markOf(Scene scene, int slide, int mark) {
            switch (mark) {
                case 0: return scene.story.left[slide];
                case 1: return scene.story.right[slide];
                case 2: return scene.story.bright[slide];
                default: return Integer.bitCount(scene.showing(slide));
            }
        }
    }
}
