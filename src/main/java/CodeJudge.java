import java.util.Arrays;

/**
 * Several candidate codes read the same stream of units; the judge tells which of them the
 * stream most probably is written in. The document's promises say what each call answers.
 */
public final class CodeJudge {
    public static final int NONE = -1, UNKNOWN = -101, OUTSIDE = -102, STATE = -103, FULL = -104;

    private static final int MOST_CODES = 4;
    private static final int LONGEST_STREAM = 40;
    private static final int LONGEST_PAGE = 40;
    private static final int LONGEST_TEXT = 22;
    private static final int LONGEST_COUNTED_ROW = 9;
    private static final int DIGEST_ROW = 5;
    private static final int PIECE_FEE = 7;
    private static final int ABOUTS = 8, COUNTS = 8;

    private static final int UNITS = 8;
    private static final int SORT_PAIRS = 4;
    private static final int FLAT = 0, PAIRED = 1, COUNTED = 2, TURNED = 3;

    /** A mode is what a code remembers beside its last sign; in REST no sign is open and nothing turned over. */
    private static final int REST = 0, MODES = 5;
    private static final int SECOND_DUE = 1;
    private static final int ONE_MORE_A = 1, ONE_MORE_B = 2, TWO_MORE_A = 3, TWO_MORE_B = 4;
    private static final int TURNED_OVER = 1;

    private static final int NO_SORT = 0, SORT_A = 1, SORT_B = 2, SORTS = 3;

    /** A state is mode * SORTS + the sort of the last sign, so that the states of REST are the lowest. */
    private static final int STATES = MODES * SORTS;
    private static final int START = REST * SORTS + NO_SORT;
    private static final int DEAD = -1;

    private final int[] page;
    private int pageLength;
    private final int[] units;
    private int come;
    private int length;
    private final Code[] codes;
    private final Reading[] readings;
    private int codeCount;
    private int codesEver;
    private int unitsEver;
    private final Outlook outlook;
    private final Parting parting;
    private final Division division;

    public CodeJudge() {
        page = new int[LONGEST_PAGE];
        pageLength = 0;
        units = new int[LONGEST_STREAM];
        come = 0;
        length = LONGEST_STREAM;
        codes = new Code[MOST_CODES];
        readings = new Reading[MOST_CODES];
        for (int i = 0; i < MOST_CODES; i++) {
            codes[i] = new Code();
            readings[i] = new Reading(codes[i]);
        }
        codeCount = 0;
        codesEver = 0;
        unitsEver = 0;
        outlook = new Outlook();
        parting = new Parting();
        division = new Division();
    }

    public int letter(int code) {
        if (code < 32 || code > 126) {
            return OUTSIDE;
        }
        if (pageLength >= LONGEST_PAGE) {
            return FULL;
        }
        page[pageLength] = code;
        pageLength++;
        return pageLength;
    }

    public int blank() {
        int had = pageLength;
        pageLength = 0;
        return had;
    }

    public int fault() {
        return Grammar.firstFault(page, pageLength);
    }

    public int code() {
        if (!Grammar.isWhole(page, pageLength)) {
            return STATE;
        }
        if (codeCount >= MOST_CODES) {
            return FULL;
        }
        int number = codeCount;
        codes[number].load(page, pageLength);
        readings[number].follow(units, come);
        codeCount++;
        codesEver++;
        pageLength = 0;
        return number;
    }

    public int drop() {
        if (codeCount <= 0) {
            return STATE;
        }
        codeCount--;
        return codeCount;
    }

    public int ink(int code, int place) {
        if (!isCode(code) || place < 0 || place >= codes[code].textLength()) {
            return UNKNOWN;
        }
        return codes[code].textAt(place);
    }

    public int open(int length) {
        if (length < 1 || length > LONGEST_STREAM) {
            return OUTSIDE;
        }
        int had = come;
        this.length = length;
        come = 0;
        readAgain();
        return had;
    }

    public int feed(int unit) {
        if (!isUnit(unit)) {
            return OUTSIDE;
        }
        if (come >= length) {
            return FULL;
        }
        letCome(unit);
        readAgain();
        return come;
    }

    public int feeds() {
        for (int i = 0; i < pageLength; i++) {
            if (!isUnit(page[i] - '0')) {
                return STATE;
            }
        }
        if (pageLength > length - come) {
            return FULL;
        }
        for (int i = 0; i < pageLength; i++) {
            letCome(page[i] - '0');
        }
        pageLength = 0;
        readAgain();
        return come;
    }

    public int back() {
        if (come <= 0) {
            return STATE;
        }
        come--;
        readAgain();
        return come;
    }

    public int unit(int place) {
        if (place < 0 || place >= come) {
            return UNKNOWN;
        }
        return units[place];
    }

    public int about(int code, int what) {
        if (!isCode(code)) {
            return UNKNOWN;
        }
        Reading reading = readings[code];
        switch (what) {
            case 0:
                return codes[code].kind();
            case 1:
                return reading.isAlive() ? 1 : 0;
            case 2:
                return reading.isValid() ? 1 : 0;
            case 3:
                return reading.signCount();
            case 4:
                return reading.weight();
            case 5:
                return reading.isAlive() ? NONE : reading.allowedUnits();
            case 6:
                return firstSure(code);
            case 7:
                return placeInRanking(code);
            default:
                return OUTSIDE;
        }
    }

    public int points(int code, int sorts) {
        if (!isCode(code)) {
            return UNKNOWN;
        }
        if (!isSortPair(sorts)) {
            return OUTSIDE;
        }
        return codes[code].pointsOf(sorts);
    }

    public int pairs(int code, int sorts) {
        if (!isCode(code)) {
            return UNKNOWN;
        }
        if (!isSortPair(sorts)) {
            return OUTSIDE;
        }
        return readings[code].pairCount(sorts);
    }

    public int judged() {
        int first = rank(0);
        return isCode(first) && readings[first].isValid() ? first : NONE;
    }

    public int rank(int place) {
        for (int code = 0; code < codeCount; code++) {
            if (placeInRanking(code) == place) {
                return code;
            }
        }
        return UNKNOWN;
    }

    public int rows(int code, int n) {
        if (!isCode(code)) {
            return UNKNOWN;
        }
        if (n < 0 || n > LONGEST_COUNTED_ROW) {
            return OUTSIDE;
        }
        return codes[code].validRows(n);
    }

    public int apart(int one, int other) {
        if (!isCode(one) || !isCode(other)) {
            return UNKNOWN;
        }
        return parting.search(codes[one], codes[other]) ? parting.rowLength() : NONE;
    }

    public int tells(int one, int other, int place) {
        if (!isCode(one) || !isCode(other) || !parting.search(codes[one], codes[other])) {
            return UNKNOWN;
        }
        if (place < 0 || place >= parting.rowLength()) {
            return UNKNOWN;
        }
        return parting.rowUnit(place);
    }

    public int cuts(int what) {
        if (what < 0 || what > 1) {
            return OUTSIDE;
        }
        if (!division.divide(codes, codeCount, units, come)) {
            return STATE;
        }
        return what == 0 ? division.worth() : division.pieceCount();
    }

    public int piece(int piece, int what) {
        if (!division.divide(codes, codeCount, units, come)) {
            return UNKNOWN;
        }
        if (piece < 0 || piece >= division.pieceCount()) {
            return UNKNOWN;
        }
        if (what < 0 || what > 2) {
            return OUTSIDE;
        }
        return division.propertyOf(piece, what);
    }

    public int count(int what) {
        switch (what) {
            case 0:
                return codeCount;
            case 1:
                return come;
            case 2:
                return length;
            case 3:
                return aliveCodes();
            case 4:
                return validCodes();
            case 5:
                return pageLength;
            case 6:
                return codesEver;
            case 7:
                return unitsEver;
            default:
                return OUTSIDE;
        }
    }

    public long digest() {
        long hash = 1511;
        for (int code = 0; code < codeCount; code++) {
            hash = foldCode(hash, code);
        }
        for (int i = 0; i < come; i++) {
            hash = fold(hash, units[i]);
        }
        hash = fold(hash, judged());
        hash = foldDivision(hash);
        for (int i = 0; i < pageLength; i++) {
            hash = fold(hash, page[i]);
        }
        for (int what = 0; what < COUNTS; what++) {
            hash = fold(hash, count(what));
        }
        return hash;
    }

    private static long fold(long hash, long value) {
        return 31 * hash + value;
    }

    private long foldCode(long start, int code) {
        long hash = start;
        int size = codes[code].textLength();
        for (int place = 0; place < size; place++) {
            hash = fold(hash, ink(code, place));
        }
        for (int what = 0; what < ABOUTS; what++) {
            hash = fold(hash, about(code, what));
        }
        for (int sorts = 0; sorts < SORT_PAIRS; sorts++) {
            hash = fold(hash, pairs(code, sorts));
        }
        hash = fold(hash, rows(code, DIGEST_ROW));
        for (int other = 0; other < codeCount; other++) {
            hash = fold(hash, apart(code, other));
        }
        return hash;
    }

    private long foldDivision(long start) {
        if (!division.divide(codes, codeCount, units, come)) {
            return start;
        }
        long hash = fold(start, division.worth());
        int pieces = division.pieceCount();
        hash = fold(hash, pieces);
        for (int i = 0; i < pieces; i++) {
            for (int what = 0; what < 3; what++) {
                hash = fold(hash, division.propertyOf(i, what));
            }
        }
        return hash;
    }

    private boolean isCode(int number) {
        return number >= 0 && number < codeCount;
    }

    private static boolean isUnit(int number) {
        return number >= 0 && number < UNITS;
    }

    private static boolean isSortPair(int number) {
        return number >= 0 && number < SORT_PAIRS;
    }

    private void letCome(int unit) {
        if (come < units.length) {
            units[come] = unit;
            come++;
            unitsEver++;
        }
    }

    private void readAgain() {
        for (int code = 0; code < codeCount; code++) {
            readings[code].follow(units, come);
        }
    }

    private int aliveCodes() {
        int found = 0;
        for (int code = 0; code < codeCount; code++) {
            if (readings[code].isAlive()) {
                found++;
            }
        }
        return found;
    }

    private int validCodes() {
        int found = 0;
        for (int code = 0; code < codeCount; code++) {
            if (readings[code].isValid()) {
                found++;
            }
        }
        return found;
    }

    private int placeInRanking(int code) {
        int ahead = 0;
        for (int other = 0; other < codeCount; other++) {
            if (isAhead(other, code)) {
                ahead++;
            }
        }
        return ahead;
    }

    private boolean isAhead(int one, int other) {
        Reading first = readings[one];
        Reading second = readings[other];
        if (first.group() != second.group()) {
            return first.group() < second.group();
        }
        if (first.weight() != second.weight()) {
            return first.weight() > second.weight();
        }
        return one < other;
    }

    /**
     * With each unit that comes, fewer rows are left. So what beats a code at N beats it at
     * every smaller N too, and what can still be valid at N can be at every smaller N: the
     * code is sure from the place where nobody beats it any more to its last hope.
     */
    private int firstSure(int code) {
        int lastHope = outlook.lastHope(readings[code], length);
        if (lastHope == NONE) {
            return NONE;
        }
        int first = 0;
        for (int rival = 0; rival < codeCount && first <= lastHope; rival++) {
            if (rival != code) {
                int beaten = outlook.lastBeaten(readings[code], readings[rival], length, rival < code);
                first = Math.max(first, beaten + 1);
            }
        }
        return first <= lastHope ? first : NONE;
    }

    /** What a text may be: the letter of the kind, perhaps a digit, the marks, and four points. */
    private static final class Grammar {
        static int kindOf(int letter) {
            switch (letter) {
                case 'f':
                    return FLAT;
                case 'p':
                    return PAIRED;
                case 'c':
                    return COUNTED;
                case 't':
                    return TURNED;
                default:
                    return NONE;
            }
        }

        static int marksBegin(int kind) {
            return kind == PAIRED || kind == TURNED ? 2 : 1;
        }

        static int pointsBegin(int kind) {
            return marksBegin(kind) + (kind == TURNED ? 2 * UNITS : UNITS);
        }

        static int textLength(int kind) {
            return pointsBegin(kind) + SORT_PAIRS;
        }

        static int firstFault(int[] text, int size) {
            if (size <= 0 || text.length < size) {
                return 0;
            }
            int kind = kindOf(text[0]);
            if (kind == NONE) {
                return 0;
            }
            for (int place = 1; place < size; place++) {
                if (!fits(kind, place, text[place])) {
                    return place;
                }
            }
            return size;
        }

        static boolean isWhole(int[] text, int size) {
            if (size <= 0 || text.length < size) {
                return false;
            }
            int kind = kindOf(text[0]);
            return kind != NONE && size == textLength(kind) && firstFault(text, size) == size;
        }

        private static boolean fits(int kind, int place, int sign) {
            if (place < marksBegin(kind)) {
                return sign >= (kind == PAIRED ? '1' : '0') && sign <= '7';
            }
            if (place < pointsBegin(kind)) {
                return isMark(kind, sign);
            }
            return place < textLength(kind) && sign >= '0' && sign <= '9';
        }

        private static boolean isMark(int kind, int sign) {
            if (sign == 'a' || sign == 'b' || sign == '!') {
                return true;
            }
            return kind == COUNTED && (sign == '+' || sign >= 'c' && sign <= 'f');
        }
    }

    /** A code as a state machine; its tables are laid out once, when its text is read. */
    private static final class Code {
        private final int[] text = new int[LONGEST_TEXT];
        private int size;
        private int kind;
        private int modes;
        private int digit;
        /** For each mode and unit: the next mode * SORTS + the sort of the sign that ends there, or DEAD. */
        private final int[] moves = new int[MODES * UNITS];
        private final int[] nexts = new int[STATES * UNITS];
        private final int[] gains = new int[STATES * UNITS];
        private final int[] ways = new int[MODES];
        private final int[] longerWays = new int[MODES];

        /** Takes only what Grammar.isWhole accepts. */
        void load(int[] page, int length) {
            size = Math.min(Math.min(length, page.length), LONGEST_TEXT);
            for (int i = 0; i < size; i++) {
                text[i] = page[i];
            }
            kind = Grammar.kindOf(text[0]);
            digit = text[1] - '0';
            modes = modesOf(kind);
            for (int mode = 0; mode < MODES; mode++) {
                for (int unit = 0; unit < UNITS; unit++) {
                    int move = mode < modes ? moveOf(mode, unit) : DEAD;
                    moves[mode * UNITS + unit] = move;
                    layOut(mode, unit, move);
                }
            }
        }

        private static int modesOf(int kind) {
            if (kind == COUNTED) {
                return MODES;
            }
            return kind == FLAT ? 1 : 2;
        }

        private void layOut(int mode, int unit, int move) {
            for (int last = 0; last < SORTS; last++) {
                int cell = (mode * SORTS + last) * UNITS + unit;
                boolean signEnds = move != DEAD && move % SORTS != NO_SORT;
                nexts[cell] = move == DEAD || signEnds ? move : move + last;
                gains[cell] = signEnds && last != NO_SORT ? pointsOf(sortPair(last, move % SORTS)) : 0;
            }
        }

        private int moveOf(int mode, int unit) {
            switch (kind) {
                case FLAT:
                    return signMove(REST, markOf(0, unit));
                case PAIRED:
                    return mode == REST && unit >= digit ? SECOND_DUE * SORTS : signMove(REST, markOf(0, unit));
                case COUNTED:
                    return mode == REST ? beginMove(markOf(0, unit)) : wantedMove(mode, markOf(0, unit));
                case TURNED:
                    return unit == digit ? (TURNED_OVER - mode) * SORTS : signMove(mode, markOf(mode, unit));
                default:
                    return DEAD;
            }
        }

        private static int signMove(int mode, int mark) {
            if (mark == 'a') {
                return mode * SORTS + SORT_A;
            }
            return mark == 'b' ? mode * SORTS + SORT_B : DEAD;
        }

        private static int beginMove(int mark) {
            switch (mark) {
                case 'c':
                    return ONE_MORE_A * SORTS;
                case 'd':
                    return ONE_MORE_B * SORTS;
                case 'e':
                    return TWO_MORE_A * SORTS;
                case 'f':
                    return TWO_MORE_B * SORTS;
                default:
                    return signMove(REST, mark);
            }
        }

        private static int wantedMove(int mode, int mark) {
            if (mark != '+') {
                return DEAD;
            }
            switch (mode) {
                case ONE_MORE_A:
                    return REST * SORTS + SORT_A;
                case ONE_MORE_B:
                    return REST * SORTS + SORT_B;
                case TWO_MORE_A:
                    return ONE_MORE_A * SORTS;
                case TWO_MORE_B:
                    return ONE_MORE_B * SORTS;
                default:
                    return DEAD;
            }
        }

        private int markOf(int bank, int unit) {
            int place = Grammar.marksBegin(kind) + bank * UNITS + unit;
            return place >= 0 && place < size ? text[place] : '!';
        }

        int kind() {
            return kind;
        }

        int textLength() {
            return size;
        }

        int textAt(int place) {
            return place >= 0 && place < size ? text[place] : UNKNOWN;
        }

        int pointsOf(int sorts) {
            int place = Grammar.pointsBegin(kind) + sorts;
            return place >= 0 && place < size ? text[place] - '0' : 0;
        }

        int states() {
            return modes * SORTS;
        }

        int modes() {
            return modes;
        }

        static int sortPair(int first, int second) {
            return (first - SORT_A) * 2 + second - SORT_A;
        }

        static int modeOf(int state) {
            return state / SORTS;
        }

        private int moveIn(int mode, int unit) {
            if (mode < 0 || mode >= MODES || unit < 0 || unit >= UNITS) {
                return DEAD;
            }
            return moves[mode * UNITS + unit];
        }

        int nextMode(int mode, int unit) {
            int move = moveIn(mode, unit);
            return move == DEAD ? DEAD : move / SORTS;
        }

        int sortEnded(int mode, int unit) {
            int move = moveIn(mode, unit);
            return move == DEAD ? NO_SORT : move % SORTS;
        }

        int nextState(int state, int unit) {
            if (state < 0 || state >= STATES || unit < 0 || unit >= UNITS) {
                return DEAD;
            }
            return nexts[state * UNITS + unit];
        }

        int gain(int state, int unit) {
            if (state < 0 || state >= STATES || unit < 0 || unit >= UNITS) {
                return 0;
            }
            return gains[state * UNITS + unit];
        }

        int validRows(int n) {
            Arrays.fill(ways, 0);
            ways[REST] = 1;
            for (int i = 0; i < n; i++) {
                lengthenWays();
            }
            return ways[REST];
        }

        private void lengthenWays() {
            Arrays.fill(longerWays, 0);
            for (int mode = 0; mode < modes; mode++) {
                for (int unit = 0; unit < UNITS; unit++) {
                    int next = nextMode(mode, unit);
                    if (next >= 0 && next < MODES) {
                        longerWays[next] += ways[mode];
                    }
                }
            }
            System.arraycopy(longerWays, 0, ways, 0, MODES);
        }
    }

    /** What one code makes of the stream, kept for every beginning of it. */
    private static final class Reading {
        private final Code code;
        private final int[] states = new int[LONGEST_STREAM + 1];
        private final int[] weights = new int[LONGEST_STREAM + 1];
        private final int[] pairCounts = new int[SORT_PAIRS];
        private int signs;
        private int allowed;
        private boolean alive;

        Reading(Code code) {
            this.code = code;
        }

        void follow(int[] units, int come) {
            Arrays.fill(pairCounts, 0);
            states[0] = START;
            weights[0] = 0;
            signs = 0;
            allowed = 0;
            int end = Math.min(Math.min(come, units.length), LONGEST_STREAM);
            for (int place = 0; place < end && allowed == place; place++) {
                take(place, units[place]);
            }
            alive = allowed == end;
        }

        private void take(int place, int unit) {
            int state = states[place];
            int next = code.nextState(state, unit);
            if (next == DEAD) {
                return;
            }
            int last = state % SORTS;
            int ended = code.sortEnded(Code.modeOf(state), unit);
            if (ended != NO_SORT) {
                signs++;
                countPair(last, ended);
            }
            states[place + 1] = next;
            weights[place + 1] = weights[place] + code.gain(state, unit);
            allowed = place + 1;
        }

        private void countPair(int last, int ended) {
            if (last != NO_SORT) {
                int pair = Code.sortPair(last, ended);
                if (isSortPair(pair)) {
                    pairCounts[pair]++;
                }
            }
        }

        boolean isAlive() {
            return alive;
        }

        boolean isValid() {
            return alive && Code.modeOf(states[allowed]) == REST;
        }

        int group() {
            if (isValid()) {
                return 0;
            }
            return alive ? 1 : 2;
        }

        int signCount() {
            return signs;
        }

        int weight() {
            return weights[allowed];
        }

        int allowedUnits() {
            return allowed;
        }

        int pairCount(int pair) {
            return isSortPair(pair) ? pairCounts[pair] : 0;
        }

        int stateAt(int place) {
            return place >= 0 && place <= allowed ? states[place] : DEAD;
        }

        int weightAt(int place) {
            return place >= 0 && place <= allowed ? weights[place] : 0;
        }
    }

    /**
     * What may still follow. It goes from the stream's end backwards, one unit more with each
     * step, so that a single walk answers for every beginning of the stream.
     */
    private static final class Outlook {
        /** No row is valid in both codes; far below every lead, which is at most 39 * 9 either way. */
        private static final int NEVER = -1000000;

        /** For each two states, by how much the rival can gain more than the own code, both being valid at the end. */
        private final int[] leads = new int[STATES * STATES];
        private final int[] longerLeads = new int[STATES * STATES];

        /** The greatest N at which a row that is valid in the code can still follow, or NONE. */
        int lastHope(Reading reading, int length) {
            int hopeful = 1 << REST;
            for (int n = length; n >= 0; n--) {
                int state = reading.stateAt(n);
                if (state != DEAD && (hopeful >> Code.modeOf(state) & 1) == 1) {
                    return n;
                }
                hopeful = oneUnitEarlier(reading.code, hopeful);
            }
            return NONE;
        }

        private static int oneUnitEarlier(Code code, int hopeful) {
            int earlier = 0;
            int modes = code.modes();
            for (int mode = 0; mode < modes; mode++) {
                for (int unit = 0; unit < UNITS; unit++) {
                    int next = code.nextMode(mode, unit);
                    if (next != DEAD && (hopeful >> next & 1) == 1) {
                        earlier |= 1 << mode;
                    }
                }
            }
            return earlier;
        }

        /** The greatest N at which the rival would be preferred to the own code in a row valid in both, or NONE. */
        int lastBeaten(Reading own, Reading rival, int length, boolean rivalWinsTies) {
            int enough = rivalWinsTies ? 0 : 1;
            beginAtEnd();
            for (int n = length; n >= 0; n--) {
                int lead = leadAt(own.stateAt(n), rival.stateAt(n));
                if (lead != NEVER && rival.weightAt(n) - own.weightAt(n) + lead >= enough) {
                    return n;
                }
                lengthen(own.code, rival.code);
            }
            return NONE;
        }

        private void beginAtEnd() {
            Arrays.fill(leads, NEVER);
            for (int mine = 0; mine < SORTS; mine++) {
                for (int other = 0; other < SORTS; other++) {
                    leads[mine * STATES + other] = 0;
                }
            }
        }

        private int leadAt(int mine, int other) {
            if (mine < 0 || mine >= STATES || other < 0 || other >= STATES) {
                return NEVER;
            }
            return leads[mine * STATES + other];
        }

        private void lengthen(Code own, Code rival) {
            Arrays.fill(longerLeads, NEVER);
            int states = Math.min(own.states(), STATES);
            for (int mine = 0; mine < states; mine++) {
                for (int unit = 0; unit < UNITS; unit++) {
                    int next = own.nextState(mine, unit);
                    if (next != DEAD) {
                        lengthenBy(unit, mine, next, own.gain(mine, unit), rival);
                    }
                }
            }
            System.arraycopy(longerLeads, 0, leads, 0, leads.length);
        }

        private void lengthenBy(int unit, int mine, int mineNext, int mineGain, Code rival) {
            int states = Math.min(rival.states(), STATES);
            for (int other = 0; other < states; other++) {
                int lead = leadAt(mineNext, rival.nextState(other, unit));
                if (lead != NEVER) {
                    int longer = lead + rival.gain(other, unit) - mineGain;
                    int cell = mine * STATES + other;
                    longerLeads[cell] = Math.max(longerLeads[cell], longer);
                }
            }
        }
    }

    /** The shortest row that is valid in one code but not in another. */
    private static final class Parting {
        /** The other code's modes, and one more for a row that it does not allow. */
        private static final int OTHER_MODES = MODES + 1, OTHER_DEAD = MODES;
        private static final int NODES = MODES * OTHER_MODES;
        private static final int UNSEEN = -2, ROOT = -1;

        private final int[] queue = new int[NODES];
        private final int[] parents = new int[NODES];
        private final int[] lastUnits = new int[NODES];
        private final int[] row = new int[NODES];
        private int queued;
        private int rowLength;

        /**
         * Tries units in rising order and nodes in the order in which they were found, so the
         * first row that gets anywhere is the shortest and lexicographically first one.
         */
        boolean search(Code one, Code other) {
            Arrays.fill(parents, UNSEEN);
            queued = 0;
            rowLength = 0;
            reach(REST * OTHER_MODES + REST, ROOT, 0);
            for (int i = 0; i < queued && i < NODES; i++) {
                int node = queue[i];
                if (parts(node)) {
                    writeRow(node);
                    return true;
                }
                expand(node, one, other);
            }
            return false;
        }

        private static boolean parts(int node) {
            return node / OTHER_MODES == REST && node % OTHER_MODES != REST;
        }

        private void expand(int node, Code one, Code other) {
            for (int unit = 0; unit < UNITS; unit++) {
                int oneNext = one.nextMode(node / OTHER_MODES, unit);
                if (oneNext != DEAD) {
                    int otherNext = other.nextMode(node % OTHER_MODES, unit);
                    reach(oneNext * OTHER_MODES + (otherNext == DEAD ? OTHER_DEAD : otherNext), node, unit);
                }
            }
        }

        private void reach(int node, int parent, int unit) {
            if (node >= 0 && node < NODES && parents[node] == UNSEEN && queued < NODES) {
                parents[node] = parent;
                lastUnits[node] = unit;
                queue[queued] = node;
                queued++;
            }
        }

        private void writeRow(int last) {
            int size = 0;
            int node = last;
            while (size < NODES && node >= 0 && node < NODES && parents[node] != ROOT) {
                size++;
                node = parents[node];
            }
            node = last;
            for (int place = size - 1; place >= 0 && node >= 0 && node < NODES; place--) {
                row[place] = lastUnits[node];
                node = parents[node];
            }
            rowLength = size;
        }

        int rowLength() {
            return rowLength;
        }

        int rowUnit(int place) {
            return place >= 0 && place < rowLength && place < NODES ? row[place] : UNKNOWN;
        }
    }

    /** The best division, built from the last unit to the first: an entry is the best one of the units from it on. */
    private static final class Division {
        private static final int NO_DIVISION = -1;

        private final int[] worths = new int[LONGEST_STREAM + 1];
        private final int[] pieceCounts = new int[LONGEST_STREAM + 1];
        private final int[] ends = new int[LONGEST_STREAM + 1];
        private final int[] numbers = new int[LONGEST_STREAM + 1];
        private final int[] weights = new int[LONGEST_STREAM + 1];

        boolean divide(Code[] codes, int codeCount, int[] units, int come) {
            int size = Math.min(Math.min(come, units.length), LONGEST_STREAM);
            worths[size] = 0;
            pieceCounts[size] = 0;
            for (int begin = size - 1; begin >= 0; begin--) {
                pieceCounts[begin] = NO_DIVISION;
                for (int number = 0; number < codeCount && number < codes.length; number++) {
                    tryPieces(codes[number], number, units, begin, size);
                }
            }
            return pieceCounts[0] != NO_DIVISION;
        }

        private void tryPieces(Code code, int number, int[] units, int begin, int size) {
            int state = START;
            int weight = 0;
            for (int place = begin; place < size && state != DEAD; place++) {
                weight += code.gain(state, units[place]);
                state = code.nextState(state, units[place]);
                if (state != DEAD && Code.modeOf(state) == REST) {
                    tryPiece(begin, place + 1, number, weight, size);
                }
            }
        }

        private void tryPiece(int begin, int end, int number, int weight, int size) {
            if (pieceCounts[end] == NO_DIVISION) {
                return;
            }
            int worth = weight + (end < size ? worths[end] - PIECE_FEE : 0);
            int pieces = pieceCounts[end] + 1;
            if (isBetter(begin, worth, pieces, end, number)) {
                worths[begin] = worth;
                pieceCounts[begin] = pieces;
                ends[begin] = end;
                numbers[begin] = number;
                weights[begin] = weight;
            }
        }

        private boolean isBetter(int begin, int worth, int pieces, int end, int number) {
            if (pieceCounts[begin] == NO_DIVISION) {
                return true;
            }
            if (worth != worths[begin]) {
                return worth > worths[begin];
            }
            if (pieces != pieceCounts[begin]) {
                return pieces < pieceCounts[begin];
            }
            return end != ends[begin] ? end < ends[begin] : number < numbers[begin];
        }

        int worth() {
            return worths[0];
        }

        int pieceCount() {
            return pieceCounts[0];
        }

        int propertyOf(int piece, int what) {
            int begin = 0;
            for (int i = 0; i < piece && begin < LONGEST_STREAM; i++) {
                begin = ends[begin];
            }
            switch (what) {
                case 0:
                    return ends[begin];
                case 1:
                    return numbers[begin];
                default:
                    return weights[begin];
            }
        }
    }
}
