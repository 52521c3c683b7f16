/** A land in which people answer for one another by days; ../shared/DOC.md says what each call promises. */
public final class AnswerDays {
    public static final int NONE = -1;
    public static final int NOTHING = -10000;

    private static final int PEOPLE = 6;
    private static final int DEEDS = 6;
    private static final int PLACES = 4;
    private static final int CLOCKS = 7;
    private static final int SIGHTS = 6;
    private static final int LAWS = 6;
    private static final int IMAGES = 2;
    private static final int BYTES = 400;
    private static final int MOST_SIGN = 9;
    private static final int MOST_KIND = 3;
    private static final int MOST_WORTH = 9;
    private static final int MOST_BALANCE = 9999;
    private static final int MOST_PAID = 99;
    private static final int MOST_OWED = 99;
    private static final int MOST_DAYS_ON = 99;
    private static final int MOST_WALKED = 20;
    private static final int MOST_SEED = 1000000;
    private static final int MOST_YEARS = 60;

    private static final int DAY = 0;
    private static final int WAKES = 1;
    private static final int MOOD = 2;
    private static final int[] MOST_OF_TERM = {999, 10, 9};

    private static final int NOBODY = 6;
    private static final int BARRED = 7;

    private static final int BAD_NUMBER = -1;
    private static final int NO_SUCH = -2;
    private static final int CANNOT_BE = -3;
    private static final int NO_ROOM = -5;
    private static final int BAD_TEXT = -6;

    // Words as TOKENS: their places in Tape.WORDS. What "doer" to "balance" stand for has the same place in a Reckoner.
    private static final int DOER_WORD = 0;
    private static final int SIGN_WORD = 1;
    private static final int KIND_WORD = 2;
    private static final int WORTH_WORD = 3;
    private static final int PLACE_WORD = 4;
    private static final int DATE_WORD = 5;
    private static final int WEEK_WORD = 6;
    private static final int MOOD_WORD = 7;
    private static final int DAY_WORD = 8;
    private static final int DONE_WORD = 9;
    private static final int LATEST_WORD = 10;
    private static final int EVEN_WORD = 11;
    private static final int BALANCE_WORD = 12;
    private static final int CLOCK_WORD = 13;
    private static final int ANSWERS = 14;
    private static final int OWES = 15;
    private static final int BARS = 16;
    private static final int DO = 17;
    private static final int PAY = 18;
    private static final int WIND = 19;
    private static final int PASS = 20;
    private static final int BY = 21;
    private static final int TO = 22;
    private static final int AT = 23;
    private static final int TIMES = 24;
    private static final int IF = 25;
    private static final int OR = 26;
    private static final int AND = 27;
    private static final int NOT = 28;
    // The other TOKENS; a single byte is SINGLE and that byte.
    private static final int STRANGE = 29;
    private static final int NUMERAL = 30;
    private static final int END = 31;
    private static final int SINGLE = 32;

    // Steps of the code of a Text.
    private static final int STOP = 0;
    private static final int NUMBER = 1;
    private static final int WORD = 2;
    private static final int TURN = 3;
    private static final int UNLESS_SO = 4;
    private static final int IF_SO = 5;
    private static final int PLUS = 6;
    private static final int MINUS = 7;
    private static final int MULTIPLY = 8;
    private static final int DIVIDE = 9;
    private static final int REST = 10;
    private static final int LESS = 11;
    private static final int MORE = 12;
    private static final int SAME = 13;

    private final Tape tape;
    private final Reader reader;
    private final Acts acts;
    private final Asker asker;
    private final Ways ways;
    private final Sums sums;
    private final Land land;
    // Orders come back to it when one can't be, years are played on it.
    private final Land paper;
    private final Land[] images;
    private final boolean[] kept;
    private final int[] refusals;
    private final int[] drawnBalances;
    private int drawnPeople;
    private int status;
    private int fault;
    private int blots;
    private int stopped;

    public AnswerDays() {
        Reckoner reckoner = new Reckoner();
        Judge judge = new Judge(reckoner);
        tape = new Tape();
        reader = new Reader(tape);
        acts = new Acts(reckoner, judge);
        asker = new Asker(judge);
        ways = new Ways(asker);
        sums = new Sums();
        land = new Land();
        paper = new Land();
        images = new Land[IMAGES];
        for (int i = 0; i < IMAGES; i++) {
            images[i] = new Land();
        }
        kept = new boolean[IMAGES];
        refusals = new int[5];
        drawnBalances = new int[PEOPLE];
        fault = NONE;
        stopped = NONE;
    }

    public int person(int sign) {
        if (!isWithin(sign, 0, MOST_SIGN)) {
            return refuse(BAD_NUMBER);
        }
        if (land.people >= PEOPLE) {
            return refuse(NO_ROOM);
        }
        land.journal.size = 0;
        return grant(land.addPerson(sign));
    }

    public int of(int person, int what) {
        if (!land.hasPerson(person) || !isWithin(what, 0, 1)) {
            return NOTHING;
        }
        return what == 0 ? land.signs[person] : land.balances[person];
    }

    public int deed(int kind, int worth) {
        if (!isDeed(kind, worth)) {
            return refuse(BAD_NUMBER);
        }
        if (land.deeds >= DEEDS) {
            return refuse(NO_ROOM);
        }
        return grant(land.addDeed(kind, worth));
    }

    public int at(int deed, int what) {
        if (!land.hasDeed(deed) || !isWithin(what, 0, 1)) {
            return NONE;
        }
        return what == 0 ? land.kinds[deed] : land.worths[deed];
    }

    public int place(int place, int what) {
        if (!isPlace(place) || !isWithin(what, 0, 2)) {
            return NONE;
        }
        if (what == 0) {
            return land.clocks[place];
        }
        return what == 1 ? land.dateOf(place) : land.roads[place];
    }

    public int road(int one, int other, int is) {
        if (!isPlace(one) || !isPlace(other) || one == other || !isWithin(is, 0, 1)) {
            return refuse(BAD_NUMBER);
        }
        int was = (land.roads[one] >> other) & 1;
        if (was != is) {
            land.roads[one] ^= 1 << other;
            land.roads[other] ^= 1 << one;
        }
        return grant(was);
    }

    public int asks(int deed, int doer, int place, int what) {
        if (!isQuestion(deed, doer, place) || !isWithin(what, 0, 1)) {
            return NONE;
        }
        int told = asker.toldOn(land, deed, doer, place, 0);
        if (what == 0) {
            return asker.judge.owed;
        }
        return told == BARRED ? 1 : 0;
    }

    public int terms(int what, int value) {
        if (!isWithin(what, 0, 2) || !isWithin(value, 0, MOST_OF_TERM[what])) {
            return refuse(BAD_NUMBER);
        }
        int was = land.terms[what];
        land.terms[what] = value;
        land.journal.size = 0;
        return grant(was);
    }

    public int feed(int a, int b, int c, int d, int e) {
        if (tape.size + 20 > BYTES) {
            return NONE;
        }
        tape.take(a);
        tape.take(b);
        tape.take(c);
        tape.take(d);
        tape.take(e);
        return tape.size;
    }

    public int end(int n) {
        if (!isWithin(n, 0, tape.size)) {
            return NONE;
        }
        tape.size = n;
        return n;
    }

    public int row() {
        if (tape.size == 0) {
            return refuse(BAD_TEXT);
        }
        int came = 0;
        blots = 0;
        for (int i = 0; i < tape.size; i += 2) {
            boolean whole = i + 1 < tape.size;
            if (whole && land.deeds < DEEDS && isDeed(tape.bytes[i], tape.bytes[i + 1])) {
                land.addDeed(tape.bytes[i], tape.bytes[i + 1]);
                came++;
            } else {
                blots++;
            }
        }
        tape.size = 0;
        return grant(came);
    }

    public int blots() {
        return blots;
    }

    public int law() {
        if (land.laws >= LAWS) {
            tape.size = 0;
            return refuse(NO_ROOM);
        }
        fault = reader.read(false);
        tape.size = 0;
        if (fault != NONE) {
            return refuse(BAD_TEXT);
        }
        return grant(land.addLaw(reader.draft.trimmed()));
    }

    public int orders() {
        stopped = NONE;
        fault = reader.read(true);
        tape.size = 0;
        if (fault != NONE) {
            return refuse(BAD_TEXT);
        }
        paper.takeOver(land);
        stopped = acts.runAll(land, reader.draft);
        if (stopped != NONE) {
            land.takeOver(paper);
            return refuse(CANNOT_BE);
        }
        return grant(acts.done);
    }

    public int fault() {
        return fault;
    }

    public int stopped() {
        return stopped;
    }

    public int force(int law) {
        if (law != NONE && !land.hasLaw(law)) {
            return refuse(NO_SUCH);
        }
        int was = land.force;
        land.force = law;
        return grant(was);
    }

    public int commit(int deed, int doer, int place) {
        return heed(acts.commitOn(land, deed, doer, place));
    }

    public int pay(int one, int other, int n) {
        return heed(acts.payOn(land, one, other, n));
    }

    public int wind(int place, int clock) {
        return heed(acts.windOn(land, place, clock));
    }

    public int pass() {
        return heed(acts.passOn(land));
    }

    public int undo() {
        return heed(acts.undoOn(land));
    }

    public int who(int deed, int doer, int place, int n) {
        if (!isQuestion(deed, doer, place) || !isWithin(n, 0, MOST_DAYS_ON)) {
            return NONE;
        }
        return asker.toldOn(land, deed, doer, place, n);
    }

    public int first(int deed, int doer, int place, int who) {
        if (!isQuestion(deed, doer, place) || !isWithin(who, 0, BARRED)) {
            return NONE;
        }
        return asker.firstDay(land, deed, doer, place, who);
    }

    public int period(int deed, int doer, int place) {
        if (!isQuestion(deed, doer, place)) {
            return NONE;
        }
        return asker.leastPeriod(land, deed, doer, place);
    }

    public int loopholes(int place, int n, int i) {
        if (!isPlace(place) || !isWithin(n, 0, MOST_DAYS_ON) || i < NONE) {
            return NONE;
        }
        return asker.loophole(land, place, n, i);
    }

    public int plan(int doer, int place, int not, int what) {
        if (!land.hasPerson(doer) || !isPlace(place) || !land.hasPerson(not)) {
            return NONE;
        }
        if (!isWithin(what, 0, land.deeds)) {
            return NONE;
        }
        int last = ways.lastPlanned(land, doer, place, not);
        if (what == 0 || last == NONE) {
            return last;
        }
        return ways.planned[what - 1];
    }

    public int walk(int deed, int doer, int from, int n, int what) {
        if (!isQuestion(deed, doer, from) || !isWithin(n, 1, MOST_WALKED) || !isWithin(what, 0, n)) {
            return NONE;
        }
        int binding = ways.fewestBinding(land, deed, doer, from, n);
        return what == 0 ? binding : ways.walked[what - 1];
    }

    public int quits() {
        return sums.fewestPayments(land);
    }

    public int seen(int day, int deed, int place, int who) {
        if (!isWithin(day, 0, MOST_OF_TERM[DAY]) || !isPlace(place) || !isWithin(who, 0, NOBODY)) {
            return refuse(BAD_NUMBER);
        }
        if (!land.hasDeed(deed) || who != NOBODY && !land.hasPerson(who)) {
            return refuse(NO_SUCH);
        }
        if (land.sights >= SIGHTS) {
            return refuse(NO_ROOM);
        }
        return grant(land.addSight(day, deed, place, who));
    }

    public int forget() {
        int was = land.sights;
        land.sights = 0;
        return was;
    }

    public int doers() {
        return asker.doersOf(land);
    }

    public int look(int deed, int place, int what) {
        if (!land.hasDeed(deed) || !isPlace(place) || !isWithin(what, 0, 1)) {
            return NONE;
        }
        int day = asker.bestDay(land, deed, place);
        return what == 0 || day == NONE ? day : asker.found;
    }

    public int fair(int deed, int place, int what) {
        if (!land.hasDeed(deed) || !isPlace(place) || !isWithin(what, 0, 1) || land.people == 0) {
            return NONE;
        }
        int clock = asker.fairestClock(land, deed, place);
        return what == 0 ? clock : asker.found;
    }

    public long few(int k, int n) {
        if (!isWithin(k, 1, 20) || !isWithin(n, 0, 99)) {
            return NONE;
        }
        return sums.chanceOfFewer(k, n, land.terms[WAKES]);
    }

    public int compare(int law, int deed, int doer, int place) {
        if (law != NONE && !land.hasLaw(law) || !isQuestion(deed, doer, place)) {
            return NONE;
        }
        return asker.daysOfNobody(land, law, deed, doer, place);
    }

    public int years(int seed, int n) {
        if (!isWithin(seed, 0, MOST_SEED) || !isWithin(n, 1, MOST_YEARS)) {
            return refuse(BAD_NUMBER);
        }
        if (land.people == 0 || land.deeds == 0) {
            return refuse(CANNOT_BE);
        }
        paper.takeOver(land);
        int unanswered = acts.playYears(paper, seed, n);
        drawnPeople = paper.people;
        System.arraycopy(paper.balances, 0, drawnBalances, 0, PEOPLE);
        return grant(unanswered);
    }

    public int drawn(int person) {
        return isWithin(person, 0, drawnPeople - 1) ? drawnBalances[person] : NOTHING;
    }

    public int image(int k) {
        if (!isWithin(k, 0, IMAGES - 1)) {
            return refuse(BAD_NUMBER);
        }
        images[k].takeOver(land);
        kept[k] = true;
        return grant(0);
    }

    public int back(int k) {
        if (!isWithin(k, 0, IMAGES - 1)) {
            return refuse(BAD_NUMBER);
        }
        if (!kept[k]) {
            return refuse(NO_SUCH);
        }
        land.takeOver(images[k]);
        land.journal.size = 0;
        return grant(0);
    }

    public int count(int what) {
        if (isWithin(what, 7, 11)) {
            return refusals[what - 7];
        }
        if (isWithin(what, 13, 15)) {
            return land.terms[what - 13];
        }
        switch (what) {
            case 0: return land.people;
            case 1: return land.peopleEven();
            case 2: return land.deeds;
            case 3: return land.sights;
            case 4: return land.laws;
            case 5: return land.journal.size;
            case 6: return tape.size;
            case 12: return land.force;
            default: return NONE;
        }
    }

    public int status() {
        return status;
    }

    private int grant(int answer) {
        status = 0;
        return answer;
    }

    private int refuse(int by) {
        status = by;
        refusals[by > -4 ? -1 - by : -2 - by]++;
        return by;
    }

    /** Only for what never answers below 0 unless it is REFUSED. */
    private int heed(int answer) {
        return answer < 0 ? refuse(answer) : grant(answer);
    }

    private boolean isQuestion(int deed, int doer, int place) {
        return land.hasDeed(deed) && land.hasPerson(doer) && isPlace(place);
    }

    private static boolean isWithin(int number, int least, int most) {
        return number >= least && number <= most;
    }

    private static boolean isPlace(int place) {
        return place >= 0 && place < PLACES;
    }

    private static boolean isDeed(int kind, int worth) {
        return isWithin(kind, 0, MOST_KIND) && isWithin(worth, 1, MOST_WORTH);
    }

    /** The bytes that have been fed and not yet been used, and the TOKENS that they make. */
    private static final class Tape {
        // A blank stands behind each, the last one too.
        static final String WORDS = "doer sign kind worth place date week mood day done latest even balance clock answers owes bars do pay wind pass by to at times if or and not ";
        static final int MOST_NUMBER = 1000;
        static final int BLANK = 0;
        static final int LETTER = 1;
        static final int DIGIT = 2;
        static final int OTHER = 3;

        final int[] bytes = new int[BYTES];
        final int[] codes = new int[BYTES + 1];
        final int[] starts = new int[BYTES + 1];
        final int[] ends = new int[BYTES + 1];
        final int[] numbers = new int[BYTES + 1];
        int size;

        void take(int number) {
            for (int shift = 24; shift >= 0 && size < BYTES; shift -= 8) {
                bytes[size] = (number >> shift) & 255;
                size++;
            }
        }

        /** Makes TOKENS of all bytes; the last one is the end's. */
        void cut() {
            int tokens = 0;
            int before = BLANK;
            for (int i = 0; i < size; i++) {
                int kind = kindOf(bytes[i]);
                if (kind == OTHER || kind != BLANK && kind != before) {
                    starts[tokens] = i;
                    tokens++;
                }
                if (kind != BLANK) {
                    ends[tokens - 1] = i + 1;
                }
                before = kind;
            }
            for (int token = 0; token < tokens; token++) {
                name(token);
            }
            starts[tokens] = size;
            codes[tokens] = END;
        }

        private void name(int token) {
            int sign = bytes[starts[token]];
            int kind = kindOf(sign);
            if (kind == LETTER) {
                codes[token] = wordOf(starts[token], ends[token]);
            } else if (kind == DIGIT) {
                codes[token] = NUMERAL;
                numbers[token] = numberOf(starts[token], ends[token]);
            } else {
                codes[token] = SINGLE + sign;
            }
        }

        private int wordOf(int start, int end) {
            int word = 0;
            // How many letters are the same so far, NONE behind one that is not.
            int same = 0;
            for (int i = 0; i < WORDS.length(); i++) {
                char letter = WORDS.charAt(i);
                if (letter == ' ') {
                    if (same == end - start) {
                        return word;
                    }
                    word++;
                    same = 0;
                } else if (same != NONE) {
                    same = start + same < end && bytes[start + same] == letter ? same + 1 : NONE;
                }
            }
            return STRANGE;
        }

        /** Beyond what may stand anywhere it does not matter how far. */
        private int numberOf(int start, int end) {
            int number = 0;
            for (int i = start; i < end; i++) {
                number = Math.min(10 * number + bytes[i] - '0', MOST_NUMBER + 1);
            }
            return number;
        }

        private static int kindOf(int sign) {
            if (sign == ' ') {
                return BLANK;
            }
            if (sign >= 'a' && sign <= 'z') {
                return LETTER;
            }
            return sign >= '0' && sign <= '9' ? DIGIT : OTHER;
        }
    }

    /** A LAW or ORDERS that have been read: CLAUSES, and the code of their SUMS and TESTS. */
    private static final class Text {
        static final int MOST_CLAUSES = 12;
        // Each step of the code stands for a byte of the TAPE of its own, but for a STOP behind each SUM and TEST.
        static final int MOST_CODE = BYTES + 4 * MOST_CLAUSES;
        static final int TEST_PART = 3;

        final int[] kinds;
        final int[] times;
        // Of each CLAUSE where its three SUMS and its TEST begin, NONE without.
        final int[] starts;
        final int[] code;
        int clauses;
        int size;

        Text(int clauseRoom, int codeRoom) {
            kinds = new int[clauseRoom];
            times = new int[clauseRoom];
            starts = new int[4 * clauseRoom];
            code = new int[codeRoom];
        }

        Text trimmed() {
            Text text = new Text(clauses, size);
            System.arraycopy(kinds, 0, text.kinds, 0, clauses);
            System.arraycopy(times, 0, text.times, 0, clauses);
            System.arraycopy(starts, 0, text.starts, 0, 4 * clauses);
            System.arraycopy(code, 0, text.code, 0, size);
            text.clauses = clauses;
            text.size = size;
            return text;
        }

        void open(int clause) {
            clauses = clause + 1;
            times[clause] = 1;
            for (int part = 0; part <= TEST_PART; part++) {
                starts[4 * clause + part] = NONE;
            }
        }

        int startOf(int clause, int part) {
            return starts[4 * clause + part];
        }

        void begin(int clause, int part) {
            starts[4 * clause + part] = size;
        }

        /** Where the step stands. */
        int emit(int op, int with) {
            if (size < code.length) {
                code[size] = op + 16 * with;
                size++;
            }
            return size - 1;
        }

        /** The jump that stands there goes to what comes next. */
        void aim(int jump) {
            if (isWithin(jump, 0, size - 1)) {
                code[jump] = (code[jump] & 15) + 16 * size;
            }
        }
    }

    /** Reads the TAPE's TOKENS into a draft; what reads stops at the one that can't go on: the FAULT. */
    private static final class Reader {
        static final int MOST_PARTS = 50;
        static final int MOST_BRACKETS = 8;
        static final int MOST_TIMES = 20;

        private final Tape tape;
        final Text draft = new Text(Text.MOST_CLAUSES, Text.MOST_CODE);
        private boolean ofOrders;
        private int parts;
        private int next;

        Reader(Tape tape) {
            this.tape = tape;
        }

        /** Where the FAULT is, NONE without. */
        int read(boolean asOrders) {
            ofOrders = asOrders;
            parts = 0;
            next = 0;
            draft.clauses = 0;
            draft.size = 0;
            tape.cut();
            boolean more = true;
            for (int clause = 0; clause < Text.MOST_CLAUSES && more; clause++) {
                draft.open(clause);
                if (!(ofOrders ? readOrder(clause) : readLaw(clause))) {
                    return tape.starts[next];
                }
                if (skip(IF)) {
                    draft.begin(clause, Text.TEST_PART);
                    if (!readTest(0)) {
                        return tape.starts[next];
                    }
                    draft.emit(STOP, 0);
                }
                more = skip(SINGLE + ';');
            }
            return !more && is(END) ? NONE : tape.starts[next];
        }

        private boolean readLaw(int clause) {
            int kind = tape.codes[next];
            draft.kinds[clause] = kind;
            if (kind != ANSWERS && kind != OWES) {
                return skip(BARS);
            }
            next++;
            return readSumOf(clause, 0);
        }

        private boolean readOrder(int clause) {
            draft.kinds[clause] = tape.codes[next];
            boolean good;
            if (skip(DO)) {
                good = readSumOf(clause, 0) && skip(BY) && readSumOf(clause, 1) && skip(AT) && readSumOf(clause, 2);
            } else if (skip(PAY)) {
                good = readSumOf(clause, 0) && skip(TO) && readSumOf(clause, 1);
            } else if (skip(WIND)) {
                good = readSumOf(clause, 0);
            } else {
                good = skip(PASS);
            }
            return good && readTimes(clause);
        }

        private boolean readTimes(int clause) {
            if (!skip(TIMES)) {
                return true;
            }
            if (!isNumber(1, MOST_TIMES)) {
                return false;
            }
            draft.times[clause] = tape.numbers[next];
            next++;
            return true;
        }

        private boolean readSumOf(int clause, int part) {
            draft.begin(clause, part);
            if (!readSum(0)) {
                return false;
            }
            draft.emit(STOP, 0);
            return true;
        }

        /** What stands behind an "and", an "or" is jumped over if it can't matter. */
        private boolean readTest(int depth) {
            int overAnd = NONE;
            int overOr = NONE;
            for (int i = 0; i < BYTES; i++) {
                if (!readPlain(depth)) {
                    return false;
                }
                draft.aim(overAnd);
                if (skip(AND)) {
                    overAnd = draft.emit(UNLESS_SO, 0);
                } else {
                    overAnd = NONE;
                    draft.aim(overOr);
                    if (!skip(OR)) {
                        return true;
                    }
                    overOr = draft.emit(IF_SO, 0);
                }
            }
            return false;
        }

        private boolean readPlain(int depth) {
            boolean turned = false;
            // A row of "not" goes no deeper than one: a hundred of them fit on the TAPE.
            for (int i = 0; i < BYTES && skip(NOT); i++) {
                turned = !turned;
            }
            if (is(SINGLE + '(')) {
                if (depth >= MOST_BRACKETS) {
                    return false;
                }
                next++;
                if (!readTest(depth + 1) || !skip(SINGLE + ')')) {
                    return false;
                }
            } else {
                if (!readSum(depth)) {
                    return false;
                }
                int op = is(SINGLE + '<') ? LESS : is(SINGLE + '>') ? MORE : is(SINGLE + '=') ? SAME : NONE;
                if (op == NONE) {
                    return false;
                }
                next++;
                if (!readSum(depth)) {
                    return false;
                }
                draft.emit(op, 0);
            }
            if (turned) {
                draft.emit(TURN, 0);
            }
            return true;
        }

        private boolean readSum(int depth) {
            int adding = NONE;
            int scaling = NONE;
            for (int i = 0; i < BYTES; i++) {
                if (!readPart(depth)) {
                    return false;
                }
                if (scaling != NONE) {
                    draft.emit(scaling, 0);
                }
                scaling = is(SINGLE + '*') ? MULTIPLY : is(SINGLE + '/') ? DIVIDE : is(SINGLE + '%') ? REST : NONE;
                if (scaling == NONE) {
                    if (adding != NONE) {
                        draft.emit(adding, 0);
                    }
                    adding = is(SINGLE + '+') ? PLUS : is(SINGLE + '-') ? MINUS : NONE;
                    if (adding == NONE) {
                        return true;
                    }
                }
                next++;
            }
            return false;
        }

        private boolean readPart(int depth) {
            if (is(SINGLE + '[')) {
                if (depth >= MOST_BRACKETS) {
                    return false;
                }
                next++;
                return readSum(depth + 1) && skip(SINGLE + ']');
            }
            if (parts >= MOST_PARTS) {
                return false;
            }
            parts++;
            if (is(NUMERAL)) {
                return readNumber(NUMBER, 0, Tape.MOST_NUMBER);
            }
            if (!isWithin(tape.codes[next], ofOrders ? DAY_WORD : DOER_WORD, ofOrders ? CLOCK_WORD : MOOD_WORD)) {
                return false;
            }
            int word = tape.codes[next];
            next++;
            if (word == BALANCE_WORD) {
                return readNumber(WORD, BALANCE_WORD, PEOPLE - 1);
            }
            if (word == CLOCK_WORD) {
                return readNumber(WORD, Reckoner.CLOCKS_FROM, PLACES - 1);
            }
            draft.emit(WORD, word);
            return true;
        }

        private boolean readNumber(int op, int from, int most) {
            if (!isNumber(0, most)) {
                return false;
            }
            draft.emit(op, from + tape.numbers[next]);
            next++;
            return true;
        }

        private boolean isNumber(int least, int most) {
            return tape.codes[next] == NUMERAL && tape.numbers[next] >= least && tape.numbers[next] <= most;
        }

        private boolean is(int code) {
            return tape.codes[next] == code;
        }

        /** Never goes beyond the end, which is no CLAUSE's TOKEN. */
        private boolean skip(int code) {
            if (tape.codes[next] != code) {
                return false;
            }
            next++;
            return true;
        }
    }

    /** Works out SUMS and TESTS of a Text by what its words stand for now. */
    private static final class Reckoner {
        static final int BEYOND = 1000000000;
        // A BALANCE of each PERSON, then a CLOCK of each PLACE.
        static final int CLOCKS_FROM = BALANCE_WORD + PEOPLE;
        static final int WORDS = CLOCKS_FROM + PLACES;

        final int[] words = new int[WORDS];
        // Eight brackets leave at most two numbers each to come back to.
        private final int[] stack = new int[32];
        boolean broken;

        /** Whether a CLAUSE's "if" is so, and not BROKEN; it is without one. */
        boolean isSo(Text text, int clause) {
            int start = text.startOf(clause, Text.TEST_PART);
            if (start == NONE) {
                return true;
            }
            int so = reckon(text, start);
            return !broken && so == 1;
        }

        /** The SUM, or 1 for a TEST that is so, 0 for one that is not; broken tells whether it is none of these. */
        int reckon(Text text, int start) {
            broken = true;
            int top = 0;
            int next = start;
            for (int i = 0; i < Text.MOST_CODE && isWithin(next, 0, text.size - 1); i++) {
                int op = text.code[next] & 15;
                int with = text.code[next] >> 4;
                next++;
                if (op == NUMBER || op == WORD) {
                    if (top >= stack.length || op == WORD && with >= words.length) {
                        return 0;
                    }
                    stack[top] = op == NUMBER ? with : words[with];
                    top++;
                } else if (top < (op >= PLUS ? 2 : 1)) {
                    return 0;
                } else if (op == STOP) {
                    broken = false;
                    return stack[0];
                } else if (op == TURN) {
                    stack[top - 1] = 1 - stack[top - 1];
                } else if (op == UNLESS_SO || op == IF_SO) {
                    if (stack[top - 1] == (op == UNLESS_SO ? 0 : 1)) {
                        next = with;
                    } else {
                        top--;
                    }
                } else {
                    top--;
                    long value = joined(op, stack[top - 1], stack[top]);
                    if (value > BEYOND || value < -BEYOND) {
                        return 0;
                    }
                    stack[top - 1] = (int) value;
                }
            }
            return 0;
        }

        private static long joined(int op, long one, long other) {
            switch (op) {
                case PLUS: return one + other;
                case MINUS: return one - other;
                case MULTIPLY: return one * other;
                case DIVIDE: return other == 0 ? BEYOND + 1 : one / other;
                case REST: return other == 0 ? BEYOND + 1 : one % other;
                case LESS: return one < other ? 1 : 0;
                case MORE: return one > other ? 1 : 0;
                default: return one == other ? 1 : 0;
            }
        }
    }

    /** All that an IMAGE keeps, and with it what can be undone. */
    private static final class Land {
        final int[] signs = new int[PEOPLE];
        final int[] balances = new int[PEOPLE];
        final int[] kinds = new int[DEEDS];
        final int[] worths = new int[DEEDS];
        final int[] clocks = new int[PLACES];
        final int[] roads = new int[PLACES];
        // Four numbers each: the DAY, the DEED, the PLACE, who answered.
        final int[] sighted = new int[4 * SIGHTS];
        final int[] terms = new int[3];
        final Text[] texts = new Text[LAWS];
        final Journal journal = new Journal();
        int people;
        int deeds;
        int sights;
        int laws;
        int force;

        Land() {
            terms[WAKES] = 1;
            force = NONE;
        }

        void takeOver(Land other) {
            System.arraycopy(other.signs, 0, signs, 0, PEOPLE);
            System.arraycopy(other.balances, 0, balances, 0, PEOPLE);
            System.arraycopy(other.kinds, 0, kinds, 0, DEEDS);
            System.arraycopy(other.worths, 0, worths, 0, DEEDS);
            System.arraycopy(other.clocks, 0, clocks, 0, PLACES);
            System.arraycopy(other.roads, 0, roads, 0, PLACES);
            System.arraycopy(other.sighted, 0, sighted, 0, 4 * SIGHTS);
            System.arraycopy(other.terms, 0, terms, 0, 3);
            for (int i = 0; i < LAWS; i++) {
                texts[i] = other.texts[i];
            }
            journal.takeOver(other.journal);
            people = other.people;
            deeds = other.deeds;
            sights = other.sights;
            laws = other.laws;
            force = other.force;
        }

        boolean hasPerson(int person) {
            return person >= 0 && person < people;
        }

        boolean hasDeed(int deed) {
            return deed >= 0 && deed < deeds;
        }

        boolean hasLaw(int law) {
            return law >= 0 && law < laws;
        }

        int addPerson(int sign) {
            signs[people] = sign;
            balances[people] = 0;
            people++;
            return people - 1;
        }

        int addDeed(int kind, int worth) {
            kinds[deeds] = kind;
            worths[deeds] = worth;
            deeds++;
            return deeds - 1;
        }

        int addLaw(Text text) {
            texts[laws] = text;
            laws++;
            return laws - 1;
        }

        int addSight(int day, int deed, int place, int who) {
            sighted[4 * sights] = day;
            sighted[4 * sights + 1] = deed;
            sighted[4 * sights + 2] = place;
            sighted[4 * sights + 3] = who;
            sights++;
            return sights;
        }

        int dateOf(int place) {
            return terms[DAY] + clocks[place];
        }

        int peopleEven() {
            int even = 0;
            for (int person = 0; person < people; person++) {
                if (balances[person] == 0) {
                    even++;
                }
            }
            return even;
        }

        /** Null for none. */
        Text textOf(int law) {
            return hasLaw(law) ? texts[law] : null;
        }

        boolean canMove(int one, int other, int n) {
            return balances[one] + n <= MOST_BALANCE && balances[other] - n >= -MOST_BALANCE;
        }

        void move(int one, int other, int n) {
            balances[one] += n;
            balances[other] -= n;
        }
    }

    /** What can be undone, the latest last. */
    private static final class Journal {
        static final int MOST = 16;

        final int[] kinds = new int[MOST];
        final int[] ones = new int[MOST];
        final int[] others = new int[MOST];
        final int[] moved = new int[MOST];
        int size;

        void takeOver(Journal other) {
            System.arraycopy(other.kinds, 0, kinds, 0, MOST);
            System.arraycopy(other.ones, 0, ones, 0, MOST);
            System.arraycopy(other.others, 0, others, 0, MOST);
            System.arraycopy(other.moved, 0, moved, 0, MOST);
            size = other.size;
        }

        void note(int kind, int one, int other, int n) {
            if (size >= MOST) {
                dropOldest();
            }
            kinds[size] = kind;
            ones[size] = one;
            others[size] = other;
            moved[size] = n;
            size++;
        }

        private void dropOldest() {
            size = MOST - 1;
            for (int i = 0; i < size; i++) {
                kinds[i] = kinds[i + 1];
                ones[i] = ones[i + 1];
                others[i] = others[i + 1];
                moved[i] = moved[i + 1];
            }
        }
    }

    /** Tells by a LAW who ANSWERS for a DEED, what that one OWES and whether it is BARRED. */
    private static final class Judge {
        private final Reckoner reckoner;
        int owed;

        Judge(Reckoner reckoner) {
            this.reckoner = reckoner;
        }

        /** WHO ANSWERS by a LAW (null: by none); owed tells what such a one OWES. */
        int hear(Land land, Text law, int deed, int doer, int place, int date) {
            int answerer = doer;
            boolean barred = false;
            owed = land.worths[deed];
            setWords(land, deed, doer, place, date);
            int clauses = law == null ? 0 : law.clauses;
            for (int clause = 0; clause < clauses; clause++) {
                if (!reckoner.isSo(law, clause)) {
                    continue;
                }
                int kind = law.kinds[clause];
                if (kind == BARS) {
                    barred = true;
                    continue;
                }
                int told = reckoner.reckon(law, law.startOf(clause, 0));
                if (!reckoner.broken && kind == ANSWERS) {
                    answerer = land.hasPerson(told) ? told : NOBODY;
                } else if (!reckoner.broken) {
                    owed = Math.max(0, Math.min(told, MOST_OWED));
                }
            }
            return barred ? BARRED : answerer;
        }

        private void setWords(Land land, int deed, int doer, int place, int date) {
            int[] words = reckoner.words;
            words[DOER_WORD] = doer;
            words[SIGN_WORD] = land.signs[doer];
            words[KIND_WORD] = land.kinds[deed];
            words[WORTH_WORD] = land.worths[deed];
            words[PLACE_WORD] = place;
            words[DATE_WORD] = date;
            words[WEEK_WORD] = date % 7;
            words[MOOD_WORD] = land.terms[MOOD];
        }
    }

    /** All that changes BALANCES, CLOCKS and the DAY: by a call, by ORDERS, by YEARS. */
    private static final class Acts {
        static final int COMMITTED = 0;
        static final int PAID = 1;
        static final int WOUND = 2;
        static final int PASSED = 3;

        private final Reckoner reckoner;
        private final Judge judge;
        private final int[] told = new int[3];
        int done;
        private int latest;
        private int drawing;

        Acts(Reckoner reckoner, Judge judge) {
            this.reckoner = reckoner;
            this.judge = judge;
        }

        int commitOn(Land land, int deed, int doer, int place) {
            if (!isPlace(place)) {
                return BAD_NUMBER;
            }
            if (!land.hasDeed(deed) || !land.hasPerson(doer)) {
                return NO_SUCH;
            }
            int answerer = judge.hear(land, land.textOf(land.force), deed, doer, place, land.dateOf(place));
            if (answerer == BARRED) {
                return CANNOT_BE;
            }
            boolean moves = answerer != NOBODY && answerer != doer;
            int other = moves ? answerer : doer;
            int n = moves ? judge.owed : 0;
            if (!land.canMove(doer, other, n)) {
                return CANNOT_BE;
            }
            land.move(doer, other, n);
            land.journal.note(COMMITTED, doer, other, n);
            return answerer;
        }

        int payOn(Land land, int one, int other, int n) {
            if (!isWithin(n, 1, MOST_PAID) || one == other) {
                return BAD_NUMBER;
            }
            if (!land.hasPerson(one) || !land.hasPerson(other)) {
                return NO_SUCH;
            }
            if (!land.canMove(one, other, n)) {
                return CANNOT_BE;
            }
            land.move(one, other, n);
            land.journal.note(PAID, one, other, n);
            return land.balances[one] + MOST_BALANCE;
        }

        int windOn(Land land, int place, int clock) {
            if (!isPlace(place) || !isWithin(clock, 0, CLOCKS - 1)) {
                return BAD_NUMBER;
            }
            int was = land.clocks[place];
            if (was == clock) {
                return CANNOT_BE;
            }
            land.clocks[place] = clock;
            land.journal.note(WOUND, place, was, 0);
            return was;
        }

        int passOn(Land land) {
            if (land.terms[DAY] >= MOST_OF_TERM[DAY]) {
                return CANNOT_BE;
            }
            land.terms[DAY]++;
            land.journal.note(PASSED, 0, 0, 0);
            return land.terms[DAY];
        }

        int undoOn(Land land) {
            Journal journal = land.journal;
            if (journal.size == 0) {
                return CANNOT_BE;
            }
            journal.size--;
            int kind = journal.kinds[journal.size];
            int one = journal.ones[journal.size];
            int other = journal.others[journal.size];
            if (kind == WOUND) {
                land.clocks[one] = other;
            } else if (kind == PASSED) {
                land.terms[DAY]--;
            } else {
                land.move(one, other, -journal.moved[journal.size]);
            }
            return kind;
        }

        /** Runs ORDERS up to the CLAUSE that can't be, which is told; NONE if all could. */
        int runAll(Land land, Text text) {
            done = 0;
            latest = NONE;
            for (int clause = 0; clause < text.clauses; clause++) {
                for (int time = 0; time < text.times[clause]; time++) {
                    if (!runOnce(land, text, clause)) {
                        return clause;
                    }
                }
            }
            return NONE;
        }

        private boolean runOnce(Land land, Text text, int clause) {
            setWords(land);
            if (!reckoner.isSo(text, clause)) {
                return true;
            }
            for (int part = 0; part < told.length; part++) {
                int start = text.startOf(clause, part);
                told[part] = start == NONE ? NONE : reckoner.reckon(text, start);
                if (start != NONE && reckoner.broken) {
                    return false;
                }
            }
            int answer;
            int kind = text.kinds[clause];
            if (kind == DO) {
                answer = commitOn(land, told[0], told[1], told[2]);
                latest = answer;
            } else if (kind == PAY) {
                answer = payOn(land, told[0], told[1], 1);
            } else if (kind == WIND) {
                answer = isPlace(told[0]) ? windOn(land, told[0], (land.clocks[told[0]] + 1) % CLOCKS) : BAD_NUMBER;
            } else {
                answer = passOn(land);
            }
            done++;
            return answer >= 0;
        }

        private void setWords(Land land) {
            int[] words = reckoner.words;
            words[DAY_WORD] = land.terms[DAY];
            words[DONE_WORD] = done;
            words[LATEST_WORD] = latest;
            words[EVEN_WORD] = land.peopleEven();
            for (int person = 0; person < PEOPLE; person++) {
                words[BALANCE_WORD + person] = land.hasPerson(person) ? land.balances[person] : NONE;
            }
            for (int place = 0; place < PLACES; place++) {
                words[Reckoner.CLOCKS_FROM + place] = land.clocks[place];
            }
        }

        /** For how many DEEDS done in YEARS nobody ANSWERED; there must be PEOPLE and DEEDS. */
        int playYears(Land land, int seed, int n) {
            int unanswered = 0;
            drawing = seed;
            for (int i = 0; i < n && land.terms[DAY] < MOST_OF_TERM[DAY]; i++) {
                int deed = drawOf(land.deeds);
                int doer = drawOf(land.people);
                int place = drawOf(PLACES);
                if (commitOn(land, deed, doer, place) == NOBODY) {
                    unanswered++;
                }
                passOn(land);
            }
            return unanswered;
        }

        private int drawOf(int many) {
            drawing = (drawing * 1103 + 12345) % 1000003;
            return many > 0 ? drawing % many : 0;
        }
    }

    /** What is asked of DAYS to come and of what was SEEN, on paper. */
    private static final class Asker {
        static final int LAST_FIRST = 60;
        static final int LAST_PERIOD = 60;
        static final int PERIOD_DAYS = 120;
        static final int LAST_LOOK = 30;
        static final int FAIR_DAYS = 28;
        static final int FAIR_DATES = FAIR_DAYS + CLOCKS - 1;
        static final int COMPARED_DAYS = 60;

        final Judge judge;
        private final int[] told = new int[PERIOD_DAYS];
        private final int[] alike = new int[BARRED + 1];
        private final int[] tallies = new int[FAIR_DATES * PEOPLE];
        // By how much, or how many, the latest best one was found.
        int found;

        Asker(Judge judge) {
            this.judge = judge;
        }

        int toldOn(Land land, int deed, int doer, int place, int n) {
            return judge.hear(land, land.textOf(land.force), deed, doer, place, land.dateOf(place) + n);
        }

        int firstDay(Land land, int deed, int doer, int place, int who) {
            for (int n = 0; n <= LAST_FIRST; n++) {
                if (toldOn(land, deed, doer, place, n) == who) {
                    return n;
                }
            }
            return NONE;
        }

        int leastPeriod(Land land, int deed, int doer, int place) {
            for (int n = 0; n < PERIOD_DAYS; n++) {
                told[n] = toldOn(land, deed, doer, place, n);
            }
            for (int p = 1; p <= LAST_PERIOD; p++) {
                if (comesAgainAfter(p)) {
                    return p;
                }
            }
            return NONE;
        }

        private boolean comesAgainAfter(int p) {
            for (int n = 0; n + p < PERIOD_DAYS; n++) {
                if (told[n] != told[n + p]) {
                    return false;
                }
            }
            return true;
        }

        /** The i-th of LOOPHOLES, or how many there are (i NONE). */
        int loophole(Land land, int place, int n, int i) {
            int many = 0;
            for (int deed = 0; deed < land.deeds; deed++) {
                for (int doer = 0; doer < land.people; doer++) {
                    if (toldOn(land, deed, doer, place, n) == NOBODY) {
                        if (many == i) {
                            return 10 * deed + doer;
                        }
                        many++;
                    }
                }
            }
            return i == NONE ? many : NONE;
        }

        int doersOf(Land land) {
            int bits = 0;
            for (int person = 0; person < land.people; person++) {
                if (fitsSights(land, person)) {
                    bits |= 1 << person;
                }
            }
            return bits;
        }

        private boolean fitsSights(Land land, int doer) {
            Text law = land.textOf(land.force);
            for (int i = 0; i < land.sights; i++) {
                int deed = land.sighted[4 * i + 1];
                int place = land.sighted[4 * i + 2];
                int date = land.sighted[4 * i] + land.clocks[place];
                if (judge.hear(land, law, deed, doer, place, date) != land.sighted[4 * i + 3]) {
                    return false;
                }
            }
            return true;
        }

        /** In how many DAYS to LOOK, found tells how many DOERS are left at most; NONE without DOERS. */
        int bestDay(Land land, int deed, int place) {
            int bits = doersOf(land);
            if (bits == 0) {
                return NONE;
            }
            int best = NONE;
            found = PEOPLE + 1;
            for (int n = 0; n <= LAST_LOOK; n++) {
                int left = mostAlike(land, deed, place, n, bits);
                if (left < found) {
                    found = left;
                    best = n;
                }
            }
            return best;
        }

        private int mostAlike(Land land, int deed, int place, int n, int bits) {
            for (int i = 0; i < alike.length; i++) {
                alike[i] = 0;
            }
            int most = 0;
            for (int doer = 0; doer < land.people; doer++) {
                if (((bits >> doer) & 1) == 1) {
                    int who = toldOn(land, deed, doer, place, n);
                    alike[who]++;
                    most = Math.max(most, alike[who]);
                }
            }
            return most;
        }

        /** The CLOCK that is FAIR, found tells by how much they differ; there must be PEOPLE. */
        int fairestClock(Land land, int deed, int place) {
            tallyDates(land, deed, place);
            int best = NONE;
            found = FAIR_DAYS * PEOPLE + 1;
            for (int clock = 0; clock < CLOCKS; clock++) {
                int differ = differenceBy(clock, land.people);
                if (differ < found) {
                    found = differ;
                    best = clock;
                }
            }
            return best;
        }

        /** How often each ANSWERS on each date that any CLOCK can bring: the CLOCKS share most of these. */
        private void tallyDates(Land land, int deed, int place) {
            for (int i = 0; i < tallies.length; i++) {
                tallies[i] = 0;
            }
            for (int date = 0; date < FAIR_DATES; date++) {
                for (int doer = 0; doer < land.people; doer++) {
                    int who = toldOn(land, deed, doer, place, date - land.clocks[place]);
                    if (who < PEOPLE) {
                        tallies[date * PEOPLE + who]++;
                    }
                }
            }
        }

        private int differenceBy(int clock, int people) {
            int most = 0;
            int least = FAIR_DAYS * PEOPLE;
            for (int person = 0; person < people; person++) {
                int times = 0;
                for (int date = clock; date < clock + FAIR_DAYS; date++) {
                    times += tallies[date * PEOPLE + person];
                }
                most = Math.max(most, times);
                least = Math.min(least, times);
            }
            return most - least;
        }

        int daysOfNobody(Land land, int law, int deed, int doer, int place) {
            Text text = land.textOf(law);
            int days = 0;
            for (int n = 0; n < COMPARED_DAYS; n++) {
                if (judge.hear(land, text, deed, doer, place, land.dateOf(place) + n) == NOBODY) {
                    days++;
                }
            }
            return days;
        }
    }

    /** PLANS and WALKS. */
    private static final class Ways {
        static final int PLAN_DAYS = 10;

        private final Asker asker;
        final int[] planned = new int[DEEDS];
        final int[] walked = new int[MOST_WALKED];
        // Of each DEED the DAYS on which it may be done, as bits.
        private final int[] open = new int[DEEDS];
        private final int[] openOfSome = new int[1 << DEEDS];
        private final int[] binds = new int[MOST_WALKED * PLACES];
        private final int[] fewest = new int[MOST_WALKED * PLACES];

        Ways(Asker asker) {
            this.asker = asker;
        }

        /** The last DAY of a PLAN, planned has its row; NONE if it can't be. */
        int lastPlanned(Land land, int doer, int place, int not) {
            if (land.deeds == 0) {
                return 0;
            }
            for (int deed = 0; deed < land.deeds; deed++) {
                open[deed] = openDays(land, deed, doer, place, not);
            }
            for (int last = 0; last < PLAN_DAYS; last++) {
                int days = (2 << last) - 1;
                if (canPlan(0, land.deeds, days)) {
                    fillPlan(land.deeds, days);
                    return last;
                }
            }
            return NONE;
        }

        private int openDays(Land land, int deed, int doer, int place, int not) {
            int bits = 0;
            for (int n = 0; n < PLAN_DAYS; n++) {
                int who = asker.toldOn(land, deed, doer, place, n);
                if (who != not && who != BARRED) {
                    bits |= 1 << n;
                }
            }
            return bits;
        }

        /** Each has its own DAY just if any of them together have at least as many open as they are (Hall). */
        private boolean canPlan(int from, int deeds, int days) {
            int many = deeds - from;
            openOfSome[0] = 0;
            for (int some = 1; some < 1 << many; some++) {
                int rest = some & (some - 1);
                int lowest = Integer.bitCount((some ^ rest) - 1);
                openOfSome[some] = openOfSome[rest] | open[from + lowest] & days;
                if (Integer.bitCount(openOfSome[some]) < Integer.bitCount(some)) {
                    return false;
                }
            }
            return true;
        }

        private void fillPlan(int deeds, int days) {
            int free = days;
            for (int deed = 0; deed < deeds; deed++) {
                for (int n = 0; n < PLAN_DAYS; n++) {
                    int day = 1 << n;
                    if ((open[deed] & free & day) != 0 && canPlan(deed + 1, deeds, free & ~day)) {
                        planned[deed] = n;
                        free &= ~day;
                        break;
                    }
                }
            }
        }

        /** On how many DAYS a WALK binds, walked has its row. */
        int fewestBinding(Land land, int deed, int doer, int from, int n) {
            for (int day = n - 1; day >= 0; day--) {
                for (int place = 0; place < PLACES; place++) {
                    int i = day * PLACES + place;
                    binds[i] = asker.toldOn(land, deed, doer, place, day) == doer ? 1 : 0;
                    fewest[i] = binds[i];
                    if (day < n - 1) {
                        fewest[i] += fewest[(day + 1) * PLACES + nextOf(land, place, day + 1)];
                    }
                }
            }
            walked[0] = from;
            for (int day = 1; day < n; day++) {
                walked[day] = nextOf(land, walked[day - 1], day);
            }
            return fewest[from];
        }

        /** The first PLACE to be at on that DAY, coming from another one, for the fewest to come. */
        private int nextOf(Land land, int place, int day) {
            int best = place;
            for (int other = PLACES - 1; other >= 0; other--) {
                boolean near = other == place || ((land.roads[place] >> other) & 1) == 1;
                if (near && fewest[day * PLACES + other] <= fewest[day * PLACES + best]) {
                    best = other;
                }
            }
            return best;
        }
    }

    /** QUITS and FEW. */
    private static final class Sums {
        static final long PARTS = 1000000000000L;
        static final int LIMBS = 10;

        private final int[] unpaid = new int[PEOPLE];
        private final int[] total = new int[1 << PEOPLE];
        private final int[] heaps = new int[1 << PEOPLE];
        // A chance as a whole number of 10 to the 108th: limbs of twelve digits, the lowest first.
        private final long[] limbs = new long[LIMBS];

        int fewestPayments(Land land) {
            int many = 0;
            for (int person = 0; person < land.people; person++) {
                if (land.balances[person] != 0) {
                    unpaid[many] = land.balances[person];
                    many++;
                }
            }
            total[0] = 0;
            heaps[0] = 0;
            for (int some = 1; some < 1 << many; some++) {
                int most = 0;
                for (int i = 0; i < many; i++) {
                    if (((some >> i) & 1) == 1) {
                        int rest = some ^ (1 << i);
                        total[some] = total[rest] + unpaid[i];
                        most = Math.max(most, heaps[rest]);
                    }
                }
                // Laid out one by one, a heap ends wherever all that lie there are 0 together.
                heaps[some] = total[some] == 0 ? most + 1 : most;
            }
            return many - heaps[(1 << many) - 1];
        }

        /** The chances that just 0, 1 .. k - 1 of n wake, each cut, together. */
        long chanceOfFewer(int k, int n, int wakes) {
            int sleeps = 10 - wakes;
            if (sleeps == 0) {
                return n < k ? PARTS : 0;
            }
            beSure();
            for (int i = 0; i < n; i++) {
                scale(sleeps, 10);
            }
            long chance = cut();
            for (int i = 1; i < k && i <= n; i++) {
                scale((n - i + 1) * wakes, i * sleeps);
                chance += cut();
            }
            return chance;
        }

        private void beSure() {
            for (int i = 0; i < LIMBS; i++) {
                limbs[i] = 0;
            }
            limbs[LIMBS - 1] = 1;
        }

        /** Never leaves a rest: 108 digits are more than n, and binomials are whole. */
        private void scale(int times, int divisor) {
            long carry = 0;
            for (int i = 0; i < LIMBS; i++) {
                long value = limbs[i] * times + carry;
                limbs[i] = value % PARTS;
                carry = value / PARTS;
            }
            long rest = carry;
            for (int i = LIMBS - 1; i >= 0 && divisor > 0; i--) {
                long value = rest * PARTS + limbs[i];
                limbs[i] = value / divisor;
                rest = value % divisor;
            }
        }

        private long cut() {
            return limbs[LIMBS - 1] * PARTS + limbs[LIMBS - 2];
        }
    }
}
