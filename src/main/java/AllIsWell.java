/** All is well, on condition: a castle told as a text, and what its towers say round by round. */
public final class AllIsWell {
    public static final int NONE = -1;
    public static final long NOTHING = -1000000000000000L;

    private static final int MOST_BYTES = 1600;
    private static final int MOST_STATEMENTS = 60;
    private static final int MOST_TOWERS = 8;
    private static final int MOST_LETTERS = 6;
    private static final int MOST_DIGITS = 4;
    private static final int MOST_OPEN = 6;
    private static final int MOST_UNDONE = 20;
    private static final int MOST_KEPT = 40;
    private static final int MOST_CHOSEN = 3;
    private static final int LAST_ROUND = 999;
    private static final int MOST_GONE = 100;
    private static final int FARTHEST = 60;
    private static final int NEAR = 30;
    /** Rounds 0 .. 30 ahead: as many are looked at by what is seen and by questions. */
    private static final int NEAR_ROUNDS = 31;
    private static final int TOP = 9;
    private static final int GRADES = 10;
    private static final int ALL_MOODS = 1023;

    private static final int FAULT_TEXT = 1;
    private static final int FAULT_NUMBER = 2;
    private static final int FAULT_NAME = 3;
    private static final int FAULT_OPEN = 4;
    private static final int FAULT_MANY = 5;

    /** Six letters' room for each word: the OWN WORDS first, then those that begin a question. */
    private static final String WORDS = "call  tower mood  cheer yes   says  feels well  fires cold  heard round place sigh  tone  numberglad  or    and   not   all   min   max   first last  often total most  least ";
    private static final int WORD_CALL = 0;
    private static final int WORD_TOWER = 1;
    private static final int WORD_MOOD = 2;
    private static final int WORD_CHEER = 3;
    private static final int WORD_YES = 4;
    private static final int WORD_SAYS = 5;
    private static final int WORD_FEELS = 6;
    private static final int WORD_WELL = 7;
    private static final int WORD_FIRES = 8;
    private static final int WORD_COLD = 9;
    private static final int WORD_HEARD = 10;
    private static final int WORD_ROUND = 11;
    private static final int WORD_PLACE = 12;
    private static final int WORD_SIGH = 13;
    private static final int WORD_TONE = 14;
    private static final int WORD_NUMBER = 15;
    private static final int WORD_GLAD = 16;
    private static final int WORD_OR = 17;
    private static final int WORD_AND = 18;
    private static final int WORD_NOT = 19;
    private static final int WORD_ALL = 20;
    private static final int WORD_MIN = 21;
    private static final int WORD_MAX = 22;
    private static final int OWN_WORDS = 23;
    private static final int WORD_FIRST = 23;
    private static final int WORD_LAST = 24;
    private static final int WORD_OFTEN = 25;
    private static final int WORD_TOTAL = 26;
    private static final int WORD_MOST = 27;
    private static final int WORD_LEAST = 28;
    private static final int ALL_WORDS = 29;

    /** Cells of code: 0 and above is a number, these are signs, VALUE - w is what the word w tells. */
    private static final int ADD = -1;
    private static final int TAKE = -2;
    private static final int TIMES = -3;
    private static final int SHARE = -4;
    private static final int LESSER = -5;
    private static final int GREATER = -6;
    private static final int BELOW = -7;
    private static final int ABOVE = -8;
    private static final int SAME = -9;
    private static final int BOTH = -10;
    private static final int EITHER = -11;
    private static final int DENY = -12;
    private static final int SAID_AHEAD = -13;
    private static final int VALUE = -20;

    /** In which text a SUM stands: each has words that the others have not. */
    private static final int IN_SAYS = 0;
    private static final int IN_FEELS = 1;
    private static final int IN_QUESTION = 2;

    private static final int REFUSED_TAPE = 0;
    private static final int REFUSED_TEXT = 1;
    private static final int REFUSED_TOWER = 2;
    private static final int REFUSED_ROUNDS = 3;
    private static final int REFUSED_UNDO = 4;
    private static final int REFUSED_STATE = 5;
    private static final int REFUSALS = 6;

    private Castle told = new Castle();
    private Castle spare = new Castle();
    private final Tape tape = new Tape();
    private final Sums sums = new Sums(tape);
    private final Course course = new Course(told);
    private final Question question = new Question(tape, sums, course);
    private final Advice advice = new Advice(course);
    private final Feeling feeling = new Feeling(course);
    private final Past past = new Past();
    private final State now = new State();
    private final State ahead = new State();
    private final int[] refused = new int[REFUSALS];
    private final int[] picture = new int[4 + 3 * MOST_TOWERS];
    private final long[] settling = new long[FARTHEST + 1];
    private int pictureSize = 0;
    private int faultKind = 0;
    private int faultPlace = NONE;
    private long drawn = 1;

    public AllIsWell() {
    }

    public int feed(int a, int b, int c, int d, int e) {
        if (!tape.hasRoom(20)) {
            refuse(REFUSED_TAPE);
            return NONE;
        }
        tape.write(a);
        tape.write(b);
        tape.write(c);
        tape.write(d);
        tape.write(e);
        return tape.length;
    }

    public boolean end(int n) {
        if (n < 0 || n > tape.length) {
            return refuse(REFUSED_TAPE);
        }
        tape.length = n;
        return true;
    }

    public int castle() {
        boolean good = spare.readFrom(tape, sums);
        noteFault();
        tape.length = 0;
        if (!good) {
            refuse(REFUSED_TEXT);
            return NONE;
        }
        Castle before = told;
        told = spare;
        spare = before;
        course.castle = told;
        now.begin(told);
        past.count = 0;
        feeling.rows = 0;
        return told.statements;
    }

    public int fault(int what) {
        if (what == 0) {
            return faultKind;
        }
        return what == 1 ? faultPlace : NONE;
    }

    public int has(int what) {
        switch (what) {
            case 0: return told.towers;
            case 1: return now.round;
            case 2: return isTold() ? now.last : NONE;
            case 3: return Integer.bitCount(now.yes);
            case 4: return moodsTogether();
            case 5: return Math.min(MOST_KEPT, now.kept);
            case 6: return feeling.rows;
            case 7: return past.count;
            default: return NONE;
        }
    }

    public int letter(int tower, int k) {
        if (!isTower(tower) || k < 0 || k >= MOST_LETTERS) {
            return NONE;
        }
        return told.letters[tower * MOST_LETTERS + k];
    }

    public int tower(int tower, int what) {
        if (!isTower(tower)) {
            return NONE;
        }
        switch (what) {
            case 0: return now.mood[tower];
            case 1: return now.cheer[tower];
            case 2: return now.yes >> tower & 1;
            default: return NONE;
        }
    }

    public int kept(int k, int what) {
        int shown = Math.min(MOST_KEPT, now.kept);
        if (k < 0 || k >= shown || what < 0 || what > 2) {
            return NONE;
        }
        return past.fireOf(now.kept - shown + k, what);
    }

    // ---- ahead

    public int tone(int tower, int round) {
        if (!isTower(tower) || !comes(round)) {
            return NONE;
        }
        goAhead(round + 1);
        return course.tones[tower];
    }

    public int mood(int tower, int n) {
        if (!isTower(tower) || !canBeAhead(n, 0, FARTHEST)) {
            return NONE;
        }
        goAhead(n);
        return ahead.mood[tower];
    }

    public int doubts(int round) {
        if (!isTold() || !comes(round)) {
            return NONE;
        }
        goAhead(round + 1);
        return course.doubtfulOnes();
    }

    public int fire() {
        if (!isTold()) {
            return NONE;
        }
        ahead.copy(now);
        for (int k = 0; k <= FARTHEST && ahead.hasNext(); k++) {
            course.go(ahead, 0);
            if (course.isFire()) {
                return k;
            }
        }
        return NONE;
    }

    public int settles(int what) {
        if (!isTold() || what < 0 || what > 1) {
            return NONE;
        }
        ahead.copy(now);
        settling[0] = ahead.feature(told.towers);
        for (int k = 1; k <= FARTHEST && ahead.hasNext(); k++) {
            course.go(ahead, 0);
            settling[k] = ahead.feature(told.towers);
            int earlier = indexBelow(k);
            if (earlier != NONE) {
                return what == 0 ? k : k - earlier;
            }
        }
        return NONE;
    }

    // ---- cheer, sighs, places

    public int cheered(int n) {
        return isTold() && canBeAhead(n, 1, NEAR) ? advice.fewestToCheer(now, n) : NONE;
    }

    public int sighs(int n) {
        return isTold() && canBeAhead(n, 1, NEAR) ? advice.fewestToSigh(now, n) : NONE;
    }

    public int better(int n, int what) {
        if (!isTold() || !canBeAhead(n, 1, NEAR) || what < 0 || what > 1) {
            return NONE;
        }
        advice.seekYes(now, n);
        if (advice.one == NONE) {
            return NONE;
        }
        return what == 0 ? advice.one : advice.doubtful;
    }

    public int placed(int n, int what) {
        if (!isTold() || !canBeAhead(n, 1, NEAR) || what < 0 || what > 2) {
            return NONE;
        }
        advice.seekPlaces(now, n);
        if (advice.one == NONE) {
            return NONE;
        }
        if (what == 2) {
            return advice.doubtful;
        }
        return what == 0 ? advice.one : advice.other;
    }

    public int game(int what) {
        if (!isTold() || !now.hasNext() || what < 0 || what > 1) {
            return NONE;
        }
        advice.play(now);
        return what == 0 ? advice.doubtful : advice.one;
    }

    public int rule(int k, int n) {
        if (!isTold() || k < 1 || k > MOST_TOWERS || !canBeAhead(n, 1, FARTHEST)) {
            return NONE;
        }
        int rung = 0;
        ahead.copy(now);
        for (int i = 0; i < n; i++) {
            course.go(ahead, 0);
            if (course.rowOf(k) != NONE) {
                rung++;
            }
        }
        return rung;
    }

    // ---- what one feels

    public int see() {
        boolean good = feeling.look(tape, told.towers);
        tape.length = 0;
        if (!good) {
            refuse(REFUSED_TEXT);
            return NONE;
        }
        return feeling.rows;
    }

    public int moods(int tower) {
        return isTower(tower) ? feeling.moodBits(now, tower) : NONE;
    }

    public int tells(int tower, int what) {
        if (!isTower(tower) || what < 0 || what > 2) {
            return NONE;
        }
        int bits = feeling.moodBits(now, tower);
        if (bits == 0 || !now.hasNext()) {
            return NONE;
        }
        feeling.seekTelling(now, tower, bits);
        if (what == 2) {
            return feeling.left;
        }
        return what == 0 ? feeling.tellingRound : feeling.tellingTower;
    }

    // ---- acts

    public boolean cheer(int tower, int cheer) {
        if (!isTower(tower) || cheer < 0 || cheer > TOP || now.cheer[tower] == cheer) {
            return refuse(REFUSED_TOWER);
        }
        past.keep(now);
        now.cheer[tower] = cheer;
        return true;
    }

    public boolean yes(int tower, int on) {
        if (!isTower(tower) || on < 0 || on > 1 || (now.yes >> tower & 1) == on) {
            return refuse(REFUSED_TOWER);
        }
        past.keep(now);
        now.yes ^= 1 << tower;
        return true;
    }

    public boolean change(int one, int other) {
        if (!isTower(one) || !isTower(other) || one == other) {
            return refuse(REFUSED_TOWER);
        }
        past.keep(now);
        now.swap(one, other);
        return true;
    }

    public int rounds(int n) {
        if (!canGo(n)) {
            refuse(REFUSED_ROUNDS);
            return NONE;
        }
        past.keep(now);
        int fires = 0;
        for (int k = 0; k < n; k++) {
            fires += goOn();
        }
        return fires;
    }

    public int chance(int n) {
        if (!canGo(n)) {
            refuse(REFUSED_ROUNDS);
            return NONE;
        }
        past.keep(now);
        int colds = 0;
        for (int k = 0; k < n; k++) {
            colds += catchCold();
            goOn();
        }
        return colds;
    }

    public boolean undo() {
        return past.bringBack(now) || refuse(REFUSED_UNDO);
    }

    public boolean seed(int seed) {
        if (seed < 0) {
            return refuse(REFUSED_STATE);
        }
        drawn = seed;
        return true;
    }

    // ---- questions

    public long ask() {
        if (!isTold()) {
            tape.length = 0;
            return NOTHING;
        }
        boolean good = question.read();
        noteFault();
        tape.length = 0;
        return good ? question.answer(now) : NOTHING;
    }

    // ---- images, refusals

    public int image() {
        picture[0] = now.round >> 8;
        picture[1] = now.round & 255;
        picture[2] = now.last;
        int size = 3;
        for (int t = 0; t < told.towers; t++) {
            picture[size] = now.mood[t];
            picture[size + 1] = now.cheer[t];
            picture[size + 2] = now.yes >> t & 1;
            size += 3;
        }
        picture[size] = checkOf(picture, size);
        pictureSize = size + 1;
        return pictureSize;
    }

    public int octet(int k) {
        return k >= 0 && k < pictureSize ? picture[k] : NONE;
    }

    public boolean on() {
        boolean good = isTold() && isPicture();
        if (good) {
            takePicture();
        }
        tape.length = 0;
        return good || refuse(REFUSED_STATE);
    }

    public int status(int what) {
        return what >= 0 && what < REFUSALS ? refused[what] : NONE;
    }

    // ---- what the calls share

    /** Answers false, so that a refused call can answer by it. */
    private boolean refuse(int kind) {
        refused[kind]++;
        return false;
    }

    private void noteFault() {
        faultKind = tape.faultKind;
        faultPlace = tape.faultPlace;
    }

    private boolean isTold() {
        return told.statements > 0;
    }

    private boolean isTower(int tower) {
        return tower >= 0 && tower < told.towers;
    }

    /** Whether n ROUNDS can be asked for and all of them still come: fewer than n are no answer for n. */
    private boolean canBeAhead(int n, int least, int most) {
        return n >= least && n <= most && now.round + n <= LAST_ROUND;
    }

    private boolean comes(int round) {
        return round >= 0 && round <= FARTHEST && now.round + round < LAST_ROUND;
    }

    private boolean canGo(int n) {
        return isTold() && canBeAhead(n, 1, MOST_GONE);
    }

    private int moodsTogether() {
        int together = 0;
        for (int t = 0; t < told.towers; t++) {
            together += now.mood[t];
        }
        return together;
    }

    private void goAhead(int n) {
        ahead.copy(now);
        for (int k = 0; k < n; k++) {
            course.go(ahead, 0);
        }
    }

    private int indexBelow(int k) {
        for (int i = 0; i < k; i++) {
            if (settling[i] == settling[k]) {
                return i;
            }
        }
        return NONE;
    }

    /** One ROUND that counts: its FIRE is kept. */
    private int goOn() {
        int number = now.round;
        course.go(now, 0);
        int row = course.rowOf(told.fires);
        if (row == NONE) {
            return 0;
        }
        now.kept = past.addFire(now.kept, number, row, course.doubtfulOnes());
        return 1;
    }

    private int catchCold() {
        if (draw(100) >= told.cold || told.towers == 0) {
            return 0;
        }
        int t = draw(told.towers);
        now.mood[t] = Math.max(0, now.mood[t] - 2);
        return 1;
    }

    private int draw(int m) {
        drawn = 1103515245L * drawn + 12345L & 0x7fffffffL;
        return m > 0 ? (int) (drawn / 64 % m) : 0;
    }

    private static int checkOf(int[] bytes, int size) {
        int check = 157;
        for (int k = 0; k < size && k < bytes.length; k++) {
            check = (3 * check + bytes[k]) % 251;
        }
        return check;
    }

    private boolean isPicture() {
        int size = 3 + 3 * told.towers;
        if (tape.length != size + 1 || checkOf(tape.bytes, size) != tape.bytes[size]) {
            return false;
        }
        boolean good = tape.bytes[0] * 256 + tape.bytes[1] <= LAST_ROUND && tape.bytes[2] <= TOP;
        for (int k = 3; k < size; k += 3) {
            good = good && tape.bytes[k] <= TOP && tape.bytes[k + 1] <= TOP && tape.bytes[k + 2] <= 1;
        }
        return good;
    }

    private void takePicture() {
        now.round = tape.bytes[0] * 256 + tape.bytes[1];
        now.last = tape.bytes[2];
        now.yes = 0;
        for (int t = 0; t < told.towers; t++) {
            int k = 3 + 3 * t;
            now.mood[t] = tape.bytes[k];
            now.cheer[t] = tape.bytes[k + 1];
            now.yes |= tape.bytes[k + 2] << t;
        }
        now.kept = 0;
        past.count = 0;
    }

    /** The bytes that wait for a call; read word by word, no word fits any more behind the first FAULT. */
    private static final class Tape {
        private static final int END = 0;
        private static final int WORD = 1;
        private static final int NUMBER = 2;
        private static final int SIGN = 3;
        private static final int MISFIT = 4;

        final int[] bytes = new int[MOST_BYTES];
        int length = 0;
        /** Where the word, number or sign begins that is read now. */
        int start = 0;
        int faultKind = 0;
        int faultPlace = NONE;
        private int kind = END;
        private int size = 0;
        private int value = 0;

        boolean hasRoom(int more) {
            return length + more <= MOST_BYTES;
        }

        void write(int four) {
            if (hasRoom(4)) {
                bytes[length] = four >>> 24;
                bytes[length + 1] = four >>> 16 & 255;
                bytes[length + 2] = four >>> 8 & 255;
                bytes[length + 3] = four & 255;
                length += 4;
            }
        }

        void begin() {
            kind = SIGN;
            start = 0;
            size = 0;
            faultKind = 0;
            faultPlace = NONE;
            advance();
        }

        boolean isGood() {
            return faultKind == 0;
        }

        void fail(int fault, int place) {
            if (faultKind == 0) {
                faultKind = fault;
                faultPlace = place;
            }
            kind = MISFIT;
        }

        void advance() {
            if (faultKind != 0) {
                return;
            }
            boolean wantsBlank = isLong();
            int behind = start + size;
            skipBlanks(behind);
            kind = kindAt(start);
            size = kind == END ? 0 : 1;
            while (start + size < length && isLong() && kindAt(start + size) == kind) {
                size++;
            }
            switch (kind) {
                case WORD: value = wordHere(); break;
                case NUMBER: value = numberHere(); break;
                default: value = kind == SIGN ? bytes[start] : NONE; break;
            }
            if (wantsBlank && start == behind && isLong()) {
                kind = MISFIT;
            }
        }

        private void skipBlanks(int from) {
            start = from;
            while (start < length && (bytes[start] == 10 || bytes[start] == 32)) {
                start++;
            }
        }

        /** What the byte at a place belongs to. */
        private int kindAt(int place) {
            if (place < 0 || place >= length) {
                return END;
            }
            int b = bytes[place];
            if (b >= 'a' && b <= 'z') {
                return WORD;
            }
            return b >= '0' && b <= '9' ? NUMBER : SIGN;
        }

        /** Words and numbers have more than one byte, and need a blank between them. */
        private boolean isLong() {
            return kind == WORD || kind == NUMBER;
        }

        private int wordHere() {
            for (int w = 0; w < ALL_WORDS && size <= MOST_LETTERS; w++) {
                int k = 0;
                while (k < MOST_LETTERS && WORDS.charAt(w * MOST_LETTERS + k) == (k < size ? bytes[start + k] : ' ')) {
                    k++;
                }
                if (k == MOST_LETTERS) {
                    return w;
                }
            }
            return NONE;
        }

        /** A 5th digit is faulted by its own, so that more digits need no room. */
        private int numberHere() {
            int number = 0;
            for (int k = 0; k < size && k < MOST_DIGITS; k++) {
                number = number * 10 + bytes[start + k] - '0';
            }
            return number;
        }

        boolean isEnd() {
            return kind == END;
        }

        boolean isNumber() {
            return kind == NUMBER;
        }

        boolean isSign(int sign) {
            return kind == SIGN && value == sign;
        }

        boolean isWord(int word) {
            return kind == WORD && value == word;
        }

        /** The number of the word that stands here, NONE for an unknown one and for what is no word. */
        int word() {
            return kind == WORD ? value : NONE;
        }

        void takeSign(int sign) {
            if (isSign(sign)) {
                advance();
            } else {
                fail(FAULT_TEXT, start);
            }
        }

        void takeWord(int word) {
            if (isWord(word)) {
                advance();
            } else {
                fail(FAULT_TEXT, start);
            }
        }

        int takeNumber(int least, int most) {
            int number = value;
            if (kind != NUMBER) {
                fail(FAULT_TEXT, start);
            } else if (size > MOST_DIGITS) {
                fail(FAULT_TEXT, start + MOST_DIGITS);
            } else if (number < least || number > most) {
                fail(FAULT_NUMBER, start);
            }
            advance();
            return isGood() ? number : least;
        }

        /** Looks whether a NAME stands here, and faults what does not. */
        boolean checkName() {
            if (kind != WORD || value >= 0 && value < OWN_WORDS) {
                fail(FAULT_TEXT, start);
            } else if (size > MOST_LETTERS) {
                fail(FAULT_TEXT, start + MOST_LETTERS);
            }
            return isGood();
        }

        /** Letter k of the NAME that stands here, as 1 .. 26; 0 behind it. */
        int nameLetter(int k) {
            return k >= 0 && k < size && start + k < length ? bytes[start + k] - 'a' + 1 : 0;
        }
    }

    /** Sums and tests with each sign behind what it joins, so that no tree is made. */
    private static final class Code {
        /** A cell has a byte of the text at least; the sums that hold untold need eight more. */
        final int[] cells = new int[MOST_BYTES + 8];
        int size = 0;

        void add(int cell) {
            if (size < cells.length) {
                cells[size] = cell;
                size++;
            }
        }
    }

    /** Reads SUMS from the text into code. */
    private static final class Sums {
        private final Tape tape;
        private Code code = null;
        private int kind = IN_SAYS;
        private int open = 0;
        /** How many ROUNDS AHEAD the words of a question look at. */
        int reach = 0;

        Sums(Tape tape) {
            this.tape = tape;
        }

        void begin(Code into, int where) {
            code = into;
            kind = where;
            open = 0;
            reach = 0;
        }

        /** One more is open from here on, unless it is one too many. */
        boolean opens() {
            if (open >= MOST_OPEN) {
                tape.fail(FAULT_OPEN, tape.start);
                return false;
            }
            open++;
            tape.advance();
            return true;
        }

        void closes() {
            open--;
        }

        void put(int cell) {
            if (code != null) {
                code.add(cell);
            }
        }

        private void readSum() {
            readProduct();
            for (int k = 0; k < MOST_BYTES && (tape.isSign('+') || tape.isSign('-')); k++) {
                int sign = tape.isSign('+') ? ADD : TAKE;
                tape.advance();
                readProduct();
                put(sign);
            }
        }

        private void readProduct() {
            readPart();
            for (int k = 0; k < MOST_BYTES && (tape.isSign('*') || tape.isSign('/')); k++) {
                int sign = tape.isSign('*') ? TIMES : SHARE;
                tape.advance();
                readPart();
                put(sign);
            }
        }

        private void readPart() {
            if (tape.isNumber()) {
                put(tape.takeNumber(0, 9999));
            } else if (tape.isSign('(')) {
                readOpened();
            } else if (tape.isWord(WORD_MIN)) {
                readPair(LESSER);
            } else if (tape.isWord(WORD_MAX)) {
                readPair(GREATER);
            } else if (kind == IN_QUESTION && tape.isWord(WORD_HEARD)) {
                readSaidAhead();
            } else if (isValue(tape.word())) {
                readValue();
            } else {
                tape.fail(FAULT_TEXT, tape.start);
            }
        }

        private void readOpened() {
            if (opens()) {
                readSum();
                tape.takeSign(')');
                closes();
            }
        }

        private void readPair(int sign) {
            tape.advance();
            if (!tape.isSign('(')) {
                tape.fail(FAULT_TEXT, tape.start);
            } else if (opens()) {
                readSum();
                tape.takeSign(',');
                readSum();
                tape.takeSign(')');
                closes();
                put(sign);
            }
        }

        private void readSaidAhead() {
            if (opens()) {
                readPart();
                closes();
                put(SAID_AHEAD);
                reach = NEAR_ROUNDS;
            }
        }

        private void readValue() {
            if (tape.isWord(WORD_TONE) || tape.isWord(WORD_GLAD)) {
                reach = Math.max(reach, 1);
            }
            put(VALUE - tape.word());
            tape.advance();
        }

        private boolean isValue(int word) {
            switch (word) {
                case WORD_MOOD:
                case WORD_CHEER:
                case WORD_ROUND: return true;
                case WORD_HEARD:
                case WORD_PLACE: return kind != IN_QUESTION;
                case WORD_SIGH: return kind == IN_SAYS;
                case WORD_TONE: return kind != IN_SAYS;
                case WORD_NUMBER:
                case WORD_GLAD:
                case WORD_YES: return kind == IN_QUESTION;
                default: return false;
            }
        }
    }

    /** THE CASTLE as its text tells it. */
    private static final class Castle {
        final int[] letters = new int[MOST_TOWERS * MOST_LETTERS];
        final int[] mood = new int[MOST_TOWERS];
        final int[] cheer = new int[MOST_TOWERS];
        final Code code = new Code();
        int statements = 0;
        int towers = 0;
        int yes = 0;
        int call = 0;
        int well = 4;
        int fires = 3;
        int cold = 0;
        int saysFrom = 0;
        int saysTo = 0;
        int feelsFrom = 0;
        int feelsTo = 0;

        /** Answers whether the text has no FAULT; with one this is no castle to be used. */
        boolean readFrom(Tape tape, Sums sums) {
            clear();
            tape.begin();
            tape.takeWord(WORD_CALL);
            call = tape.takeNumber(0, TOP);
            tape.takeSign(';');
            int read = 1;
            while (read < MOST_STATEMENTS && tape.isGood() && !tape.isEnd()) {
                readStatement(tape, sums);
                read++;
            }
            if (!tape.isEnd()) {
                tape.fail(FAULT_MANY, tape.start);
            }
            addUntoldSums();
            statements = read;
            return tape.isGood();
        }

        private void clear() {
            code.size = 0;
            statements = 0;
            towers = 0;
            yes = 0;
            well = 4;
            fires = 3;
            cold = 0;
            saysFrom = 0;
            saysTo = 0;
            feelsFrom = 0;
            feelsTo = 0;
        }

        private boolean hasSays() {
            return saysTo > saysFrom;
        }

        private boolean hasFeels() {
            return feelsTo > feelsFrom;
        }

        /** min(heard,mood+cheer)-sigh, and mood: what holds where the text tells no other. */
        private void addUntoldSums() {
            if (!hasSays()) {
                saysFrom = code.size;
                code.add(VALUE - WORD_HEARD);
                code.add(VALUE - WORD_MOOD);
                code.add(VALUE - WORD_CHEER);
                code.add(ADD);
                code.add(LESSER);
                code.add(VALUE - WORD_SIGH);
                code.add(TAKE);
                saysTo = code.size;
            }
            if (!hasFeels()) {
                feelsFrom = code.size;
                code.add(VALUE - WORD_MOOD);
                feelsTo = code.size;
            }
        }

        private void readStatement(Tape tape, Sums sums) {
            int first = tape.start;
            int word = tape.word();
            if (isTooMany(word)) {
                tape.fail(FAULT_MANY, first);
                return;
            }
            tape.advance();
            switch (word) {
                case WORD_TOWER: readTower(tape); break;
                case WORD_YES: readYes(tape); break;
                case WORD_SAYS: readSays(sums); break;
                case WORD_FEELS: readFeels(sums); break;
                case WORD_WELL: well = tape.takeNumber(1, TOP); break;
                case WORD_FIRES: fires = tape.takeNumber(1, MOST_TOWERS); break;
                case WORD_COLD: cold = tape.takeNumber(0, 100); break;
                default: tape.fail(FAULT_TEXT, first); break;
            }
            tape.takeSign(';');
        }

        private boolean isTooMany(int word) {
            switch (word) {
                case WORD_TOWER: return towers >= MOST_TOWERS;
                case WORD_SAYS: return hasSays();
                case WORD_FEELS: return hasFeels();
                default: return false;
            }
        }

        private void readTower(Tape tape) {
            if (!tape.checkName() || towers >= MOST_TOWERS) {
                return;
            }
            if (find(tape) != NONE) {
                tape.fail(FAULT_NAME, tape.start);
                return;
            }
            for (int k = 0; k < MOST_LETTERS; k++) {
                letters[towers * MOST_LETTERS + k] = tape.nameLetter(k);
            }
            tape.advance();
            tape.takeWord(WORD_MOOD);
            mood[towers] = tape.takeNumber(0, TOP);
            tape.takeWord(WORD_CHEER);
            cheer[towers] = tape.takeNumber(0, TOP);
            towers++;
        }

        private void readYes(Tape tape) {
            if (!tape.checkName()) {
                return;
            }
            int t = find(tape);
            if (t == NONE || (yes >> t & 1) == 1) {
                tape.fail(FAULT_NAME, tape.start);
                return;
            }
            yes |= 1 << t;
            tape.advance();
        }

        /** The TOWER of the NAME that stands on the tape, NONE without. */
        private int find(Tape tape) {
            for (int t = 0; t < towers; t++) {
                boolean same = true;
                for (int k = 0; k < MOST_LETTERS; k++) {
                    same = same && letters[t * MOST_LETTERS + k] == tape.nameLetter(k);
                }
                if (same) {
                    return t;
                }
            }
            return NONE;
        }

        private void readSays(Sums sums) {
            saysFrom = code.size;
            sums.begin(code, IN_SAYS);
            sums.readSum();
            saysTo = code.size;
        }

        private void readFeels(Sums sums) {
            feelsFrom = code.size;
            sums.begin(code, IN_FEELS);
            sums.readSum();
            feelsTo = code.size;
        }
    }

    /** How it stands: all that an ACT changes and an undo brings back. */
    private static final class State {
        final int[] mood = new int[MOST_TOWERS];
        final int[] cheer = new int[MOST_TOWERS];
        int round = 0;
        int last = 0;
        int yes = 0;
        /** How many fires the past has kept; behind them it may be written anew. */
        int kept = 0;

        void begin(Castle castle) {
            round = 0;
            last = castle.call;
            yes = castle.yes;
            kept = 0;
            for (int t = 0; t < MOST_TOWERS; t++) {
                mood[t] = castle.mood[t];
                cheer[t] = castle.cheer[t];
            }
        }

        void copy(State other) {
            round = other.round;
            last = other.last;
            yes = other.yes;
            kept = other.kept;
            for (int t = 0; t < MOST_TOWERS; t++) {
                mood[t] = other.mood[t];
                cheer[t] = other.cheer[t];
            }
        }

        boolean hasNext() {
            return round < LAST_ROUND;
        }

        /** Who is there changes; yes stays with the place. */
        void swap(int one, int two) {
            int oneMood = mood[one];
            int oneCheer = cheer[one];
            mood[one] = mood[two];
            cheer[one] = cheer[two];
            mood[two] = oneMood;
            cheer[two] = oneCheer;
        }

        /** Moods and the last tone as one number: alike just when all of these are. */
        long feature(int towers) {
            long feature = last;
            for (int t = 0; t < towers && t < MOST_TOWERS; t++) {
                feature = feature * GRADES + mood[t];
            }
            return feature;
        }
    }

    /** Works out code. */
    private static final class Machine {
        private static final long LIMIT = 1000000;
        /** Six open at once hold three values each at most. */
        private static final int ROOM = 64;

        /** By word: what it tells of the TOWER that is asked. */
        final int[] value = new int[ALL_WORDS];
        /** The tones AHEAD, ROUND by ROUND, and of how many ROUNDS. */
        final int[] said = new int[NEAR_ROUNDS * MOST_TOWERS];
        int saidRounds = 0;
        private final int[] stack = new int[ROOM];

        int work(Code code, int from, int to) {
            int top = 0;
            for (int k = Math.max(0, from); k < to && k < code.cells.length; k++) {
                int cell = code.cells[k];
                if (cell >= 0 || cell <= VALUE) {
                    if (top < ROOM) {
                        stack[top] = valueOf(cell);
                        top++;
                    }
                } else if (cell == DENY || cell == SAID_AHEAD) {
                    if (top > 0) {
                        stack[top - 1] = cell == DENY ? 1 - stack[top - 1] : saidAhead(stack[top - 1]);
                    }
                } else if (top > 1) {
                    top--;
                    stack[top - 1] = join(cell, stack[top - 1], stack[top]);
                }
            }
            return stack[0];
        }

        private int valueOf(int cell) {
            if (cell >= 0) {
                return cell;
            }
            int word = VALUE - cell;
            return word >= 0 && word < ALL_WORDS ? value[word] : 0;
        }

        private int saidAhead(int round) {
            int place = value[WORD_NUMBER];
            if (round < 0 || round >= saidRounds || round >= NEAR_ROUNDS || place < 0 || place >= MOST_TOWERS) {
                return NONE;
            }
            return said[round * MOST_TOWERS + place];
        }

        private static int join(int sign, int a, int b) {
            switch (sign) {
                case ADD: return (int) Math.max(-LIMIT, Math.min(LIMIT, (long) a + b));
                case TAKE: return (int) Math.max(-LIMIT, Math.min(LIMIT, (long) a - b));
                case TIMES: return (int) Math.max(-LIMIT, Math.min(LIMIT, (long) a * b));
                case SHARE: return b == 0 ? 0 : Math.floorDiv(a, b);
                case LESSER: return Math.min(a, b);
                case GREATER: return Math.max(a, b);
                case BELOW: return a < b ? 1 : 0;
                case ABOVE: return a > b ? 1 : 0;
                case SAME: return a == b ? 1 : 0;
                case BOTH: return a & b;
                case EITHER: return a | b;
                default: return 0;
            }
        }
    }

    /** Lets ROUNDS go by on a state, and tells of the latest one. */
    private static final class Course {
        final Machine machine = new Machine();
        final int[] tones = new int[MOST_TOWERS];
        Castle castle;
        private int doubtful = 0;

        Course(Castle castle) {
            this.castle = castle;
        }

        /** A ROUND; the bits tell below which TOWERS there is a SIGH. */
        void go(State state, int sighs) {
            doubtful = 0;
            for (int t = 0; t < castle.towers; t++) {
                goThrough(state, t, sighs >> t & 1);
                if (tones[t] < castle.well) {
                    doubtful |= 1 << t;
                }
            }
            if (state.hasNext()) {
                state.round++;
            }
        }

        private void goThrough(State state, int t, int sigh) {
            int[] value = machine.value;
            value[WORD_HEARD] = state.last;
            value[WORD_MOOD] = state.mood[t];
            value[WORD_CHEER] = state.cheer[t];
            value[WORD_ROUND] = state.round;
            value[WORD_PLACE] = t;
            value[WORD_SIGH] = sigh;
            int tone = TOP;
            if ((state.yes >> t & 1) == 0) {
                tone = graded(machine.work(castle.code, castle.saysFrom, castle.saysTo));
            }
            value[WORD_TONE] = tone;
            state.mood[t] = graded(machine.work(castle.code, castle.feelsFrom, castle.feelsTo));
            state.last = tone;
            tones[t] = tone;
        }

        private static int graded(int n) {
            return Math.max(0, Math.min(TOP, n));
        }

        int towers() {
            return castle.towers;
        }

        int doubtfulOnes() {
            return Integer.bitCount(doubtful);
        }

        boolean isFire() {
            return rowOf(castle.fires) != NONE;
        }

        /** The first place of the first k or more DOUBTFUL ones, one behind the other. */
        int rowOf(int k) {
            int length = 0;
            for (int t = 0; t < MOST_TOWERS; t++) {
                length = (doubtful >> t & 1) == 1 ? length + 1 : 0;
                if (length > 0 && length >= k) {
                    return t - length + 1;
                }
            }
            return NONE;
        }
    }

    /** What can be undone, and the FIRES that are KEPT. */
    private static final class Past {
        /** A FIRE is kept of a ROUND once at most, so there are no more than ROUNDS. */
        private static final int FIRES = 1000;

        private final State[] states = new State[MOST_UNDONE];
        private final int[] fires = new int[3 * FIRES];
        private int next = 0;
        int count = 0;

        Past() {
            for (int k = 0; k < MOST_UNDONE; k++) {
                states[k] = new State();
            }
        }

        void keep(State now) {
            states[next].copy(now);
            next = (next + 1) % MOST_UNDONE;
            count = Math.min(MOST_UNDONE, count + 1);
        }

        boolean bringBack(State now) {
            if (count == 0) {
                return false;
            }
            count--;
            next = (next + MOST_UNDONE - 1) % MOST_UNDONE;
            now.copy(states[next]);
            return true;
        }

        /** Answers how many there are then. */
        int addFire(int k, int round, int place, int doubtful) {
            if (k < 0 || k >= FIRES) {
                return k;
            }
            fires[3 * k] = round;
            fires[3 * k + 1] = place;
            fires[3 * k + 2] = doubtful;
            return k + 1;
        }

        int fireOf(int k, int what) {
            return k >= 0 && k < FIRES && what >= 0 && what < 3 ? fires[3 * k + what] : NONE;
        }
    }

    /** Tries what could be done from now on. */
    private static final class Advice {
        private final Course course;
        private final State trial = new State();
        /** The TOWER, or the two of them, that were found best; NONE without. */
        int one = NONE;
        int other = NONE;
        /** How many are DOUBTFUL by it. */
        int doubtful = 0;

        Advice(Course course) {
            this.course = course;
        }

        int fewestToCheer(State now, int n) {
            for (int size = 0; size <= MOST_CHOSEN; size++) {
                for (int bits = 0; bits < 1 << course.towers(); bits++) {
                    if (Integer.bitCount(bits) == size && !fires(now, n, bits, 0)) {
                        return bits;
                    }
                }
            }
            return NONE;
        }

        int fewestToSigh(State now, int n) {
            for (int size = 0; size <= MOST_CHOSEN; size++) {
                for (int bits = 0; bits < 1 << course.towers(); bits++) {
                    if (Integer.bitCount(bits) == size && fires(now, n, 0, bits)) {
                        return bits;
                    }
                }
            }
            return NONE;
        }

        /** Whether a FIRE comes, if these are cheered from now on and these have a SIGH in the next ROUND. */
        private boolean fires(State now, int n, int cheers, int sighs) {
            trial.copy(now);
            for (int t = 0; t < course.towers(); t++) {
                if ((cheers >> t & 1) == 1) {
                    trial.cheer[t] = TOP;
                }
            }
            for (int k = 0; k < n; k++) {
                course.go(trial, k == 0 ? sighs : 0);
                if (course.isFire()) {
                    return true;
                }
            }
            return false;
        }

        void seekYes(State now, int n) {
            trial.copy(now);
            startWith(tryRounds(n));
            for (int t = 0; t < course.towers(); t++) {
                if ((now.yes >> t & 1) == 0) {
                    trial.copy(now);
                    trial.yes |= 1 << t;
                    weigh(tryRounds(n), t, NONE);
                }
            }
        }

        void seekPlaces(State now, int n) {
            trial.copy(now);
            startWith(tryRounds(n));
            for (int first = 0; first < course.towers(); first++) {
                for (int second = first + 1; second < course.towers(); second++) {
                    trial.copy(now);
                    trial.swap(first, second);
                    weigh(tryRounds(n), first, second);
                }
            }
        }

        /** How many are DOUBTFUL in n ROUNDS of the trial, all together. */
        private int tryRounds(int n) {
            int together = 0;
            for (int k = 0; k < n; k++) {
                course.go(trial, 0);
                together += course.doubtfulOnes();
            }
            return together;
        }

        private void startWith(int untouched) {
            one = NONE;
            other = NONE;
            doubtful = untouched;
        }

        private void weigh(int found, int first, int second) {
            if (found < doubtful) {
                doubtful = found;
                one = first;
                other = second;
            }
        }

        /** The captain's none goes first, so that a TOWER must be better than it. */
        void play(State now) {
            startWith(worstBySigh(now, NONE));
            for (int t = 0; t < course.towers(); t++) {
                weigh(worstBySigh(now, t), t, NONE);
            }
        }

        /** How many are DOUBTFUL at the most, by no SIGH or one below one TOWER. */
        private int worstBySigh(State now, int cheered) {
            int worst = 0;
            for (int sighs = 0; sighs <= course.towers(); sighs++) {
                trial.copy(now);
                if (cheered >= 0 && cheered < MOST_TOWERS) {
                    trial.cheer[cheered] = TOP;
                }
                course.go(trial, sighs == 0 ? 0 : 1 << sighs - 1);
                worst = Math.max(worst, course.doubtfulOnes());
            }
            return worst;
        }
    }

    /** What one feels, by what was SEEN. */
    private static final class Feeling {
        private static final int MOST_ROWS = 16;

        private final Course course;
        private final State trial = new State();
        private final int[] seen = new int[3 * MOST_ROWS];
        /** For each mood the tones AHEAD, ROUND by ROUND, and of how many ROUNDS. */
        private final int[] said = new int[GRADES * NEAR_ROUNDS * MOST_TOWERS];
        private final int[] alike = new int[GRADES];
        private int saidRounds = 0;
        int rows = 0;
        int tellingRound = NONE;
        int tellingTower = NONE;
        int left = NONE;

        Feeling(Course course) {
            this.course = course;
        }

        boolean look(Tape tape, int towers) {
            int size = tape.length;
            if (size < 3 || size > 3 * MOST_ROWS || size % 3 != 0) {
                return false;
            }
            for (int k = 0; k < size; k += 3) {
                if (tape.bytes[k] > NEAR || tape.bytes[k + 1] >= towers || tape.bytes[k + 2] > TOP) {
                    return false;
                }
            }
            for (int k = 0; k < size; k++) {
                seen[k] = tape.bytes[k];
            }
            rows = size / 3;
            return true;
        }

        int moodBits(State now, int tower) {
            if (rows == 0) {
                return ALL_MOODS;
            }
            listen(now, tower, farthestSeen() + 1);
            int bits = 0;
            for (int mood = 0; mood < GRADES; mood++) {
                if (isAllSo(mood)) {
                    bits |= 1 << mood;
                }
            }
            return bits;
        }

        private int farthestSeen() {
            int farthest = 0;
            for (int row = 0; row < rows && row < MOST_ROWS; row++) {
                farthest = Math.max(farthest, seen[3 * row]);
            }
            return farthest;
        }

        /** Hears what all would say, for each mood that the TOWER could have now. */
        private void listen(State now, int tower, int rounds) {
            saidRounds = Math.min(Math.min(rounds, NEAR_ROUNDS), LAST_ROUND - now.round);
            for (int mood = 0; mood < GRADES; mood++) {
                trial.copy(now);
                trial.mood[tower] = mood;
                for (int round = 0; round < saidRounds; round++) {
                    course.go(trial, 0);
                    for (int t = 0; t < course.towers(); t++) {
                        said[indexOf(mood, round, t)] = course.tones[t];
                    }
                }
            }
        }

        private static int indexOf(int mood, int round, int tower) {
            return (mood * NEAR_ROUNDS + round) * MOST_TOWERS + tower;
        }

        private boolean isAllSo(int mood) {
            for (int row = 0; row < rows && row < MOST_ROWS; row++) {
                int round = seen[3 * row];
                if (round >= saidRounds || said[indexOf(mood, round, seen[3 * row + 1])] != seen[3 * row + 2]) {
                    return false;
                }
            }
            return true;
        }

        /** By whose tone fewest of these moods are left, whatever it is. */
        void seekTelling(State now, int tower, int bits) {
            listen(now, tower, NEAR_ROUNDS);
            left = GRADES + 1;
            for (int round = 0; round < saidRounds; round++) {
                for (int t = 0; t < course.towers(); t++) {
                    int most = mostAlike(bits, round, t);
                    if (most < left) {
                        left = most;
                        tellingRound = round;
                        tellingTower = t;
                    }
                }
            }
        }

        /** How many of these moods one tone leaves at the most. */
        private int mostAlike(int bits, int round, int tower) {
            int most = 0;
            for (int tone = 0; tone < GRADES; tone++) {
                alike[tone] = 0;
            }
            for (int mood = 0; mood < GRADES; mood++) {
                if ((bits >> mood & 1) == 1) {
                    int tone = said[indexOf(mood, round, tower)];
                    alike[tone]++;
                    most = Math.max(most, alike[tone]);
                }
            }
            return most;
        }
    }

    /** Reads a QUESTION and answers it. */
    private static final class Question {
        private final Tape tape;
        private final Sums sums;
        private final Course course;
        private final Code code = new Code();
        private final State trial = new State();
        private final int[] glad = new int[MOST_TOWERS];
        private int what = NONE;

        Question(Tape tape, Sums sums, Course course) {
            this.tape = tape;
            this.sums = sums;
            this.course = course;
        }

        boolean read() {
            code.size = 0;
            tape.begin();
            sums.begin(code, IN_QUESTION);
            what = tape.word();
            switch (what) {
                case WORD_FIRST:
                case WORD_LAST:
                case WORD_OFTEN:
                    tape.advance();
                    readTest();
                    break;
                case WORD_TOTAL:
                case WORD_MOST:
                case WORD_LEAST:
                    tape.advance();
                    sums.readSum();
                    break;
                default:
                    tape.fail(FAULT_TEXT, tape.start);
                    break;
            }
            if (!tape.isEnd()) {
                tape.fail(FAULT_TEXT, tape.start);
            }
            return tape.isGood();
        }

        private void readTest() {
            readBoth();
            for (int k = 0; k < MOST_BYTES && tape.isWord(WORD_OR); k++) {
                tape.advance();
                readBoth();
                code.add(EITHER);
            }
        }

        private void readBoth() {
            readFact();
            for (int k = 0; k < MOST_BYTES && tape.isWord(WORD_AND); k++) {
                tape.advance();
                readFact();
                code.add(BOTH);
            }
        }

        private void readFact() {
            if (tape.isWord(WORD_NOT)) {
                if (sums.opens()) {
                    readFact();
                    sums.closes();
                    code.add(DENY);
                }
            } else if (tape.isSign('[')) {
                if (sums.opens()) {
                    readTest();
                    tape.takeSign(']');
                    sums.closes();
                }
            } else if (tape.isWord(WORD_ALL)) {
                tape.advance();
                code.add(1);
            } else {
                readComparison();
            }
        }

        private void readComparison() {
            sums.readSum();
            int sign = SAME;
            if (tape.isSign('<')) {
                sign = BELOW;
            } else if (tape.isSign('>')) {
                sign = ABOVE;
            } else if (!tape.isSign('=')) {
                tape.fail(FAULT_TEXT, tape.start);
            }
            tape.advance();
            sums.readSum();
            code.add(sign);
        }

        long answer(State now) {
            lookAhead(now);
            long answer = what == WORD_FIRST || what == WORD_LAST ? NONE : 0;
            for (int t = 0; t < course.towers(); t++) {
                setValues(now, t);
                answer = joined(answer, t, course.machine.work(code, 0, code.size));
            }
            return answer;
        }

        private long joined(long answer, int t, int value) {
            switch (what) {
                case WORD_FIRST: return answer == NONE && value == 1 ? t : answer;
                case WORD_LAST: return value == 1 ? t : answer;
                case WORD_MOST: return t == 0 ? value : Math.max(answer, value);
                case WORD_LEAST: return t == 0 ? value : Math.min(answer, value);
                default: return answer + value;
            }
        }

        private void setValues(State now, int t) {
            Machine machine = course.machine;
            boolean comes = machine.saidRounds > 0;
            machine.value[WORD_NUMBER] = t;
            machine.value[WORD_MOOD] = now.mood[t];
            machine.value[WORD_CHEER] = now.cheer[t];
            machine.value[WORD_ROUND] = now.round;
            machine.value[WORD_TONE] = comes ? machine.said[t] : NONE;
            machine.value[WORD_GLAD] = comes ? glad[t] : NONE;
            machine.value[WORD_YES] = now.yes >> t & 1;
        }

        /** Goes as many ROUNDS AHEAD as the question has words that look there. */
        private void lookAhead(State now) {
            Machine machine = course.machine;
            machine.saidRounds = Math.min(Math.min(sums.reach, NEAR_ROUNDS), LAST_ROUND - now.round);
            trial.copy(now);
            for (int round = 0; round < machine.saidRounds; round++) {
                course.go(trial, 0);
                for (int t = 0; t < course.towers(); t++) {
                    machine.said[round * MOST_TOWERS + t] = course.tones[t];
                    glad[t] = round == 0 ? trial.mood[t] : glad[t];
                }
            }
        }
    }
}
