/** Notice boards of parishes: clerks write sheets, roads carry copies, boards hold back what came too early. */
public final class ParishBoards {
    private static final int TAPE_BYTES = 2000;
    private static final int FEED_BYTES = 20;
    private static final int MOST_TOKENS = 400;
    private static final int MOST_WORD_BYTES = 10;
    private static final int MOST_NUMBER_BYTES = 6;
    private static final int MOST_DEPTH = 8;
    private static final int MOST_PARISHES = 5;
    private static final int MOST_NOTICES = 6;
    private static final int MOST_ROADS = 8;
    private static final int MOST_ORDERS = 20;
    private static final int MOST_SHEETS = 60;
    private static final int MOST_VALUE = 9999;
    private static final int MOST_MARK = 15;
    private static final int MOST_ROAD_DAYS = 9;
    private static final int MOST_DAYS = 60;
    private static final int MOST_ADVICE_DAYS = 30;
    private static final int NONE = -1;

    private static final int GRAMMAR_ERROR = 1;
    private static final int TWICE_ERROR = 2;
    private static final int UNKNOWN_ERROR = 3;
    private static final int TOO_MANY_ERROR = 4;
    private static final int ROAD_ERROR = 5;

    private static final int COUNTS = 13;
    private static final int TAPE_COUNT = 12;
    private static final int FIRST_FORESEEN = 5;
    private static final int LAST_FORESEEN = 11;
    private static final int PARISH_FACTS = 6;
    private static final int SHEET_FACTS = 8;
    private static final int ROAD_FACTS = 5;

    private static final int WRITTEN = 0;
    private static final int NOTED = 1;
    private static final int MERGED = 2;

    private static final int BY_LEAST = 0;
    private static final int BY_MOST = 1;
    private static final int BY_SUM = 2;

    private static final long DIGEST_START = 929;
    private static final long DIGEST_FACTOR = 31;

    private static final Kind[] KINDS = Kind.values();

    private final byte[] tape = new byte[TAPE_BYTES];
    private int tapeLength = 0;
    private int errorPosition = NONE;
    // Two plans change places, so that a list with an error leaves the one that is in force as it was.
    private Plan told = new Plan();
    private Plan spare = new Plan();
    private final Tokens tokens = new Tokens();
    private final Grammar grammar = new Grammar(tokens, spare);
    private final Names names = new Names(tokens, spare);
    private final World now = new World(told);
    // What would be is tried out here, so that nothing is changed and nothing is made anew for each call.
    private final World later = new World(told);

    public ParishBoards() {
    }

    // ---- the language

    public int feed(int a, int b, int c, int d, int e) throws IllegalStateException {
        if (tapeLength + FEED_BYTES > TAPE_BYTES) {
            throw new IllegalStateException("the tape would be too long");
        }
        append(a);
        append(b);
        append(c);
        append(d);
        append(e);
        return tapeLength;
    }

    public int trim(int n) throws IllegalArgumentException {
        if (n < 0 || n > tapeLength) {
            throw new IllegalArgumentException("the tape has not so many bytes");
        }
        tapeLength = n;
        return n;
    }

    public int teach() {
        tokens.scan(tape, tapeLength);
        tapeLength = 0;
        spare.clear();
        int misfit = grammar.firstMisfit(spare);
        if (misfit != NONE) {
            errorPosition = tokens.startAt(misfit);
            return GRAMMAR_ERROR;
        }
        int error = names.firstError(spare);
        if (error != 0) {
            errorPosition = tokens.startAt(names.errorToken);
            return error;
        }
        errorPosition = NONE;
        beginAnew();
        return 0;
    }

    public int errorAt() {
        return errorPosition;
    }

    public int count(int what) throws IndexOutOfBoundsException {
        if (what < 0 || what >= COUNTS) {
            throw new IndexOutOfBoundsException("no such count");
        }
        return counted(what);
    }

    // ---- what there is

    public int parish(int parish, int what) throws IndexOutOfBoundsException {
        if (!isParish(parish) || what < 0 || what >= PARISH_FACTS) {
            throw new IndexOutOfBoundsException("no such parish or fact");
        }
        return now.parishFact(parish, what);
    }

    public int knows(int parish, int other) throws IndexOutOfBoundsException {
        if (!isParish(parish) || !isParish(other)) {
            throw new IndexOutOfBoundsException("no such parish");
        }
        return now.boards[parish].numbers[other];
    }

    public int sheet(int sheet, int what) throws IndexOutOfBoundsException {
        if (!isSheet(sheet) || what < 0 || what >= SHEET_FACTS) {
            throw new IndexOutOfBoundsException("no such sheet or fact");
        }
        return now.sheetFact(sheet, what);
    }

    public int stamp(int sheet, int parish) throws IndexOutOfBoundsException {
        if (!isSheet(sheet) || !isParish(parish)) {
            throw new IndexOutOfBoundsException("no such sheet or parish");
        }
        return now.sheets[sheet].stamp[parish];
    }

    public int shown(int parish, int notice, int place) throws IndexOutOfBoundsException {
        if (!isBoardOf(parish, notice)) {
            throw new IndexOutOfBoundsException("no such parish or notice");
        }
        int found = now.boards[parish].shownAt(notice, place);
        if (found == NONE) {
            throw new IndexOutOfBoundsException("no sheet is shown there");
        }
        return found;
    }

    public int compare(int a, int b) throws IndexOutOfBoundsException {
        if (!isSheet(a) || !isSheet(b)) {
            throw new IndexOutOfBoundsException("no such sheet");
        }
        if (a == b) {
            return 0;
        }
        if (now.sheets[a].isAheadOf(now.sheets[b])) {
            return 1;
        }
        return now.sheets[b].isAheadOf(now.sheets[a]) ? 2 : 3;
    }

    public int road(int road, int what) throws IndexOutOfBoundsException {
        if (!isRoad(road) || what < 0 || what >= ROAD_FACTS) {
            throw new IndexOutOfBoundsException("no such road or fact");
        }
        return now.roadFact(road, what);
    }

    // ---- by hand

    public int write(int parish, int notice, int value)
            throws IndexOutOfBoundsException, IllegalArgumentException, IllegalStateException {
        if (!isBoardOf(parish, notice)) {
            throw new IndexOutOfBoundsException("no such parish or notice");
        }
        if (value < 0 || value > MOST_VALUE) {
            throw new IllegalArgumentException("no such value");
        }
        if (now.isFull()) {
            throw new IllegalStateException("there are no more sheets");
        }
        return now.makeWritten(parish, notice, value);
    }

    public int note(int parish, int notice, int mark)
            throws IndexOutOfBoundsException, IllegalArgumentException, IllegalStateException {
        if (!isBoardOf(parish, notice)) {
            throw new IndexOutOfBoundsException("no such parish or notice");
        }
        if (!isMark(mark)) {
            throw new IllegalArgumentException("no such mark");
        }
        if (now.isFull() || !now.canNote(parish, notice)) {
            throw new IllegalStateException("no sheet can be noted");
        }
        return now.makeNoted(parish, notice, mark);
    }

    public int merge(int parish, int notice, int by) throws IndexOutOfBoundsException, IllegalStateException {
        if (!isBoardOf(parish, notice) || by < BY_LEAST || by > BY_SUM) {
            throw new IndexOutOfBoundsException("no such parish, notice or way of merging");
        }
        if (now.isFull() || !now.canMerge(parish, notice)) {
            throw new IllegalStateException("no sheets can be merged");
        }
        return now.makeMerged(parish, notice, by);
    }

    public int send(int road) throws IndexOutOfBoundsException {
        if (!isRoad(road)) {
            throw new IndexOutOfBoundsException("no such road");
        }
        return now.carry(road);
    }

    public int setDays(int road, int days) throws IndexOutOfBoundsException, IllegalArgumentException {
        if (!isRoad(road)) {
            throw new IndexOutOfBoundsException("no such road");
        }
        if (days < 1 || days > MOST_ROAD_DAYS) {
            throw new IllegalArgumentException("no such days");
        }
        int before = now.roads[road].days;
        now.roads[road].days = days;
        return before;
    }

    // ---- days and what would be

    public int pass(int days) throws IllegalArgumentException {
        if (days < 1 || days > MOST_DAYS) {
            throw new IllegalArgumentException("no such days");
        }
        int before = now.hung;
        now.passDays(days);
        return now.hung - before;
    }

    public int foresee(int days, int what) throws IllegalArgumentException, IndexOutOfBoundsException {
        if (days < 1 || days > MOST_DAYS) {
            throw new IllegalArgumentException("no such days");
        }
        if (what < FIRST_FORESEEN || what > LAST_FORESEEN) {
            throw new IndexOutOfBoundsException("no such count to foresee");
        }
        later.copyFrom(now);
        later.passDays(days);
        return later.tally(what);
    }

    public int until(int parish, int sheet) throws IndexOutOfBoundsException {
        if (!isParish(parish) || !isSheet(sheet)) {
            throw new IndexOutOfBoundsException("no such parish or sheet");
        }
        later.copyFrom(now);
        for (int days = 0; days <= MOST_DAYS; days++) {
            if (later.isKnownAt(parish, sheet)) {
                return days;
            }
            later.passDays(1);
        }
        return NONE;
    }

    public boolean alike() {
        for (int p = 1; p < told.parishes; p++) {
            if (!now.boards[p].showsAsMuchAs(now.boards[0])) {
                return false;
            }
        }
        return true;
    }

    public int missed() {
        for (int s = 0; s < now.sheetCount; s++) {
            if (now.knowers(s) < told.parishes) {
                return s;
            }
        }
        return NONE;
    }

    public int advise(int days) throws IllegalArgumentException {
        if (days < 1 || days > MOST_ADVICE_DAYS) {
            throw new IllegalArgumentException("no such days");
        }
        int best = NONE;
        int most = NONE;
        // The first turn is without a road: only what is more than that is advised.
        for (int road = NONE; road < told.roadCount; road++) {
            later.copyFrom(now);
            if (road != NONE) {
                later.carry(road);
            }
            later.passDays(days);
            int known = later.knownOnBoards();
            if (known > most) {
                most = known;
                best = road;
            }
        }
        return best;
    }

    public double mean() {
        if (told.parishes == 0) {
            return 0.0;
        }
        return (double) now.knownOnBoards() / (double) told.parishes;
    }

    public long digest() {
        long d = DIGEST_START;
        for (int what = 0; what < COUNTS; what++) {
            d = mixed(d, counted(what));
        }
        for (int p = 0; p < told.parishes; p++) {
            d = mixedParish(d, p);
        }
        for (int s = 0; s < now.sheetCount; s++) {
            d = mixedSheet(d, s);
        }
        for (int r = 0; r < told.roadCount; r++) {
            for (int what = 0; what < ROAD_FACTS; what++) {
                d = mixed(d, now.roadFact(r, what));
            }
        }
        return d;
    }

    // ---- helpers of the face

    private void append(int number) {
        for (int shift = 24; shift >= 0 && tapeLength < TAPE_BYTES; shift -= 8) {
            tape[tapeLength] = (byte) (number >> shift);
            tapeLength++;
        }
    }

    private void beginAnew() {
        spare.settle(tokens);
        Plan before = told;
        told = spare;
        spare = before;
        now.begin(told);
    }

    private int counted(int what) {
        return what == TAPE_COUNT ? tapeLength : now.tally(what);
    }

    private boolean isParish(int parish) {
        return parish >= 0 && parish < told.parishes;
    }

    private boolean isBoardOf(int parish, int notice) {
        return isParish(parish) && notice >= 0 && notice < told.notices;
    }

    private boolean isRoad(int road) {
        return road >= 0 && road < told.roadCount;
    }

    private boolean isSheet(int sheet) {
        return sheet >= 0 && sheet < now.sheetCount;
    }

    private static boolean isMark(int mark) {
        return mark >= 0 && mark <= MOST_MARK;
    }

    private static long mixed(long d, int x) {
        return d * DIGEST_FACTOR + x;
    }

    private long mixedParish(long start, int parish) {
        long d = start;
        for (int what = 0; what < PARISH_FACTS; what++) {
            d = mixed(d, now.parishFact(parish, what));
        }
        Board board = now.boards[parish];
        for (int other = 0; other < told.parishes; other++) {
            d = mixed(d, board.numbers[other]);
        }
        for (int notice = 0; notice < told.notices; notice++) {
            int shownThere = board.shownCount(notice);
            for (int place = 0; place < shownThere; place++) {
                d = mixed(d, board.shownAt(notice, place));
            }
        }
        return d;
    }

    private long mixedSheet(long start, int sheet) {
        long d = start;
        for (int what = 0; what < SHEET_FACTS; what++) {
            d = mixed(d, now.sheetFact(sheet, what));
        }
        for (int p = 0; p < told.parishes; p++) {
            d = mixed(d, now.sheets[sheet].stamp[p]);
        }
        return d;
    }

    /** What a token can be, with its text where it has but one; what is reckoned bears the name of its token. */
    private enum Kind {
        PARISH("parish"), ROAD("road"), FROM("from"), TO("to"), DAYS("days"), NOTICE("notice"),
        WRITE("write"), NOTE("note"), MERGE("merge"), SEND("send"), AS("as"), WITH("with"), BY("by"),
        LEAST("least"), MOST("most"), SUM("sum"), WHEN("when"), DAY("day"), VALUE("value"),
        SHEETS("sheets"), MARKS("marks"), WAITS("waits"), TORN("torn"), KNOWN("known"),
        NOT("not"), AND("and"), OR("or"), MIN("min"), MAX("max"),
        OPEN("("), CLOSE(")"), OPEN_TEST("["), CLOSE_TEST("]"), LINE_END(";"), COMMA(","),
        PLUS("+"), MINUS("-"), TIMES("*"), OVER("/"),
        LESS("<"), GREATER(">"), EQUAL("="), AT_MOST("<="), AT_LEAST(">="),
        NAME(""), NUMBER(""), TAPE_END(""), WRONG(""), TURN("");

        final String text;

        Kind(String text) {
            this.text = text;
        }
    }

    /** The tokens of the tape, up to its end or to the first that can be none. */
    private static final class Tokens {
        private final Kind[] kinds = new Kind[MOST_TOKENS + 1];
        private final int[] starts = new int[MOST_TOKENS + 1];
        // A number's value, or a name's letters as one number, so that names compare without texts.
        private final long[] worths = new long[MOST_TOKENS + 1];
        // What a name stands for: the number of its parish, notice or road.
        private final int[] meanings = new int[MOST_TOKENS + 1];
        private int size = 0;
        private byte[] bytes = new byte[0];
        private int length = 0;

        void scan(byte[] tape, int tapeLength) {
            bytes = tape;
            length = tapeLength;
            size = 0;
            int at = 0;
            boolean more = true;
            while (more && size <= MOST_TOKENS) {
                at = behindBlanks(at);
                int end = behindToken(at, size);
                more = end > at;
                at = end;
                size++;
            }
        }

        Kind kindAt(int token) {
            return token >= 0 && token < size ? kinds[token] : Kind.WRONG;
        }

        int startAt(int token) {
            return token >= 0 && token < size ? starts[token] : length;
        }

        long worthAt(int token) {
            return token >= 0 && token < size ? worths[token] : 0;
        }

        int meaningAt(int token) {
            return token >= 0 && token < size ? meanings[token] : 0;
        }

        void setMeaning(int token, int meaning) {
            if (token >= 0 && token < size) {
                meanings[token] = meaning;
            }
        }

        /** Puts the token that begins there; tells where it ends, or its beginning if it is the last. */
        private int behindToken(int at, int token) {
            int end = at;
            long worth = 0;
            Kind kind = Kind.WRONG;
            if (at >= length) {
                kind = Kind.TAPE_END;
            } else if (token < MOST_TOKENS) {
                end = behindRun(at);
                kind = kindOf(at, end);
                worth = kind == Kind.NUMBER ? numberWorth(at, end) : nameWorth(at, end);
            }
            kinds[token] = kind;
            starts[token] = at;
            worths[token] = worth;
            meanings[token] = 0;
            return kind == Kind.WRONG ? at : end;
        }

        private int behindBlanks(int start) {
            int at = start;
            while (at < length && (byteAt(at) == ' ' || byteAt(at) == '\n')) {
                at++;
            }
            return at;
        }

        private int behindRun(int start) {
            int first = byteAt(start);
            if (!isLetter(first) && !isDigit(first)) {
                return start + symbolAt(start).text.length();
            }
            boolean isWord = isLetter(first);
            int at = start;
            while (at < length && (isDigit(byteAt(at)) || isWord && isLetter(byteAt(at)))) {
                at++;
            }
            return at;
        }

        private Kind kindOf(int start, int end) {
            int first = byteAt(start);
            if (isDigit(first)) {
                return end - start > MOST_NUMBER_BYTES ? Kind.WRONG : Kind.NUMBER;
            }
            if (!isLetter(first)) {
                return symbolAt(start);
            }
            if (end - start > MOST_WORD_BYTES) {
                return Kind.WRONG;
            }
            for (Kind kind : KINDS) {
                if (kind.text.length() == end - start && standsAt(start, kind.text)) {
                    return kind;
                }
            }
            return Kind.NAME;
        }

        private Kind symbolAt(int start) {
            Kind longest = Kind.WRONG;
            for (Kind kind : KINDS) {
                if (kind.text.length() > longest.text.length() && standsAt(start, kind.text)) {
                    longest = kind;
                }
            }
            return longest;
        }

        private boolean standsAt(int start, String text) {
            if (start + text.length() > length) {
                return false;
            }
            for (int i = 0; i < text.length(); i++) {
                if (byteAt(start + i) != text.charAt(i)) {
                    return false;
                }
            }
            return true;
        }

        private long numberWorth(int start, int end) {
            long worth = 0;
            for (int at = start; at < end; at++) {
                worth = worth * 10 + (byteAt(at) - '0');
            }
            return worth;
        }

        /** Ten letters and digits to the base 37 stay within a long, and no two words come to the same. */
        private long nameWorth(int start, int end) {
            long worth = 0;
            for (int at = start; at < end; at++) {
                int next = byteAt(at);
                worth = worth * 37 + (isLetter(next) ? next - 'a' + 1 : next - '0' + 27);
            }
            return worth;
        }

        private int byteAt(int at) {
            return at >= 0 && at < length && at < bytes.length ? bytes[at] : 0;
        }

        private static boolean isLetter(int sign) {
            return sign >= 'a' && sign <= 'z';
        }

        private static boolean isDigit(int sign) {
            return sign >= '0' && sign <= '9';
        }
    }

    /** Follows the grammar from token to token, and leaves orders and what is to be reckoned in the plan. */
    private static final class Grammar {
        private final Tokens tokens;
        private Plan plan;
        private int at = 0;
        // The kind of the token there; WRONG as soon as it doesn't fit, so that nothing more is taken.
        private Kind next = Kind.WRONG;

        Grammar(Tokens read, Plan filled) {
            tokens = read;
            plan = filled;
        }

        /** The first token with which the tokens so far begin no list; NONE if there is none. */
        int firstMisfit(Plan filled) {
            plan = filled;
            at = 0;
            next = tokens.kindAt(0);
            for (int i = 0; i < MOST_TOKENS && next != Kind.TAPE_END && next != Kind.WRONG; i++) {
                line();
                take(Kind.LINE_END);
            }
            return next == Kind.TAPE_END ? NONE : at;
        }

        private void line() {
            switch (next) {
                case PARISH:
                case NOTICE:
                    take(next);
                    take(Kind.NAME);
                    break;
                case ROAD:
                    roadLine();
                    break;
                case WRITE:
                case NOTE:
                case MERGE:
                case SEND:
                    orderLine(plan.nextOrder());
                    break;
                default:
                    next = Kind.WRONG;
                    break;
            }
        }

        private void roadLine() {
            take(Kind.ROAD);
            take(Kind.NAME);
            take(Kind.FROM);
            take(Kind.NAME);
            take(Kind.TO);
            take(Kind.NAME);
            take(Kind.DAYS);
            take(Kind.NUMBER);
        }

        private void orderLine(Order order) {
            Kind kind = next;
            order.kind = kind;
            order.token = at;
            order.start = plan.code.size;
            take(kind);
            take(Kind.NAME);
            if (kind != Kind.SEND) {
                take(Kind.NAME);
            }
            if (kind == Kind.WRITE) {
                take(Kind.AS);
                sum(0);
            } else if (kind == Kind.NOTE) {
                take(Kind.WITH);
                sum(0);
            } else if (kind == Kind.MERGE) {
                take(Kind.BY);
                order.by = wayOfMerging();
            }
            order.middle = plan.code.size;
            if (kind == Kind.WRITE || kind == Kind.NOTE || next == Kind.WHEN) {
                take(Kind.WHEN);
                test(0);
            }
            order.end = plan.code.size;
        }

        private int wayOfMerging() {
            if (next == Kind.LEAST) {
                take(Kind.LEAST);
                return BY_LEAST;
            }
            if (next == Kind.MOST) {
                take(Kind.MOST);
                return BY_MOST;
            }
            take(Kind.SUM);
            return BY_SUM;
        }

        private void test(int depth) {
            both(depth);
            for (int i = 0; i < MOST_TOKENS && next == Kind.OR; i++) {
                take(Kind.OR);
                both(depth);
                plan.code.add(Kind.OR, NONE);
            }
        }

        private void both(int depth) {
            single(depth);
            for (int i = 0; i < MOST_TOKENS && next == Kind.AND; i++) {
                take(Kind.AND);
                single(depth);
                plan.code.add(Kind.AND, NONE);
            }
        }

        private void single(int depth) {
            switch (next) {
                case NOT:
                    if (goesDeeper(Kind.NOT, depth)) {
                        single(depth + 1);
                        plan.code.add(Kind.NOT, NONE);
                    }
                    break;
                case OPEN_TEST:
                    if (goesDeeper(Kind.OPEN_TEST, depth)) {
                        test(depth + 1);
                        take(Kind.CLOSE_TEST);
                    }
                    break;
                case TORN:
                case KNOWN:
                    board(next);
                    break;
                default:
                    sum(depth);
                    Kind sign = next;
                    takeComparison();
                    sum(depth);
                    plan.code.add(sign, NONE);
                    break;
            }
        }

        private void takeComparison() {
            switch (next) {
                case LESS:
                case GREATER:
                case EQUAL:
                case AT_MOST:
                case AT_LEAST:
                    take(next);
                    break;
                default:
                    next = Kind.WRONG;
                    break;
            }
        }

        private void sum(int depth) {
            product(depth);
            for (int i = 0; i < MOST_TOKENS && (next == Kind.PLUS || next == Kind.MINUS); i++) {
                Kind sign = next;
                take(sign);
                product(depth);
                plan.code.add(sign, NONE);
            }
        }

        private void product(int depth) {
            value(depth);
            for (int i = 0; i < MOST_TOKENS && (next == Kind.TIMES || next == Kind.OVER); i++) {
                Kind sign = next;
                take(sign);
                value(depth);
                plan.code.add(sign, NONE);
            }
        }

        private void value(int depth) {
            Kind first = next;
            switch (first) {
                case NUMBER:
                case DAY:
                    plan.code.add(first, at);
                    take(first);
                    break;
                case VALUE:
                case SHEETS:
                case MARKS:
                case WAITS:
                    board(first);
                    break;
                case MINUS:
                    if (goesDeeper(Kind.MINUS, depth)) {
                        value(depth + 1);
                        plan.code.add(Kind.TURN, NONE);
                    }
                    break;
                case OPEN:
                    if (goesDeeper(Kind.OPEN, depth)) {
                        sum(depth + 1);
                        take(Kind.CLOSE);
                    }
                    break;
                case MIN:
                case MAX:
                    take(first);
                    pair(depth);
                    plan.code.add(first, NONE);
                    break;
                default:
                    next = Kind.WRONG;
                    break;
            }
        }

        private void pair(int depth) {
            if (goesDeeper(Kind.OPEN, depth)) {
                sum(depth + 1);
                take(Kind.COMMA);
                sum(depth + 1);
                take(Kind.CLOSE);
            }
        }

        /** What is asked of a board, of all its notices or of one. */
        private void board(Kind asked) {
            plan.code.add(asked, at);
            take(asked);
            take(Kind.NAME);
            if (asked != Kind.WAITS) {
                take(Kind.NAME);
            }
        }

        /** Takes the token behind which the depth is greater, unless it would be too great there. */
        private boolean goesDeeper(Kind wanted, int depth) {
            take(depth < MOST_DEPTH ? wanted : Kind.WRONG);
            return next != Kind.WRONG;
        }

        private void take(Kind wanted) {
            if (next == wanted && next != Kind.WRONG) {
                at++;
                next = at < tokens.size ? tokens.kinds[at] : Kind.WRONG;
            } else {
                next = Kind.WRONG;
            }
        }
    }

    /** Looks at keywords, names and numbers of a list without misfits, and leaves what they mean. */
    private static final class Names {
        private final long[] parishes = new long[MOST_PARISHES];
        private final long[] notices = new long[MOST_NOTICES];
        private final long[] roads = new long[MOST_ROADS];
        private final Tokens tokens;
        private Plan plan;
        private int orders = 0;
        private int error = 0;
        private int errorToken = NONE;

        Names(Tokens read, Plan filled) {
            tokens = read;
            plan = filled;
        }

        /** The first error of 2 to 5; 0 if there is none. */
        int firstError(Plan filled) {
            plan = filled;
            orders = 0;
            error = 0;
            errorToken = NONE;
            for (int token = 0; token < tokens.size && error == 0; token++) {
                look(token);
            }
            return error;
        }

        private void look(int token) {
            switch (tokens.kindAt(token)) {
                case PARISH:
                    plan.parishes = tell(token + 1, parishes, plan.parishes);
                    break;
                case NOTICE:
                    plan.notices = tell(token + 1, notices, plan.notices);
                    break;
                case ROAD:
                    plan.roadCount = tell(token + 1, roads, plan.roadCount);
                    break;
                case FROM:
                case WAITS:
                    find(token + 1, parishes, plan.parishes);
                    break;
                case TO:
                    findOtherParish(token - 1, token + 1);
                    break;
                case DAYS:
                    layRoad(token);
                    break;
                case WRITE:
                case NOTE:
                case MERGE:
                    countOrder(token);
                    findBoard(token);
                    break;
                case SEND:
                    countOrder(token);
                    find(token + 1, roads, plan.roadCount);
                    break;
                case TORN:
                case KNOWN:
                case VALUE:
                case SHEETS:
                case MARKS:
                    findBoard(token);
                    break;
                default:
                    break;
            }
        }

        private int tell(int token, long[] all, int count) {
            long name = tokens.worthAt(token);
            if (placeOf(name, all, count) != NONE) {
                fail(TWICE_ERROR, token);
                return count;
            }
            if (count >= all.length) {
                fail(TOO_MANY_ERROR, token);
                return count;
            }
            all[count] = name;
            return count + 1;
        }

        private void find(int token, long[] all, int count) {
            int place = placeOf(tokens.worthAt(token), all, count);
            if (place == NONE) {
                fail(UNKNOWN_ERROR, token);
            } else {
                tokens.setMeaning(token, place);
            }
        }

        private void findBoard(int token) {
            find(token + 1, parishes, plan.parishes);
            find(token + 2, notices, plan.notices);
        }

        private void findOtherParish(int first, int second) {
            find(second, parishes, plan.parishes);
            if (tokens.meaningAt(first) == tokens.meaningAt(second)) {
                fail(ROAD_ERROR, second);
            }
        }

        private void layRoad(int token) {
            long days = tokens.worthAt(token + 1);
            if (days < 1 || days > MOST_ROAD_DAYS) {
                fail(ROAD_ERROR, token + 1);
                return;
            }
            int place = plan.roadCount - 1;
            if (place >= 0) {
                plan.roads[place].lay(tokens.meaningAt(token - 3), tokens.meaningAt(token - 1), (int) days);
            }
        }

        private void countOrder(int token) {
            orders++;
            if (orders > MOST_ORDERS) {
                fail(TOO_MANY_ERROR, token);
            }
        }

        private static int placeOf(long name, long[] all, int count) {
            for (int i = 0; i < count && i < all.length; i++) {
                if (all[i] == name) {
                    return i;
                }
            }
            return NONE;
        }

        /** Tokens are looked at from left to right, so that what fails later doesn't count. */
        private void fail(int number, int token) {
            if (error == 0) {
                error = number;
                errorToken = token;
            }
        }
    }

    /** What is to be reckoned for all sums and tests, each operator behind what it joins. */
    private static final class Code {
        private final Kind[] kinds = new Kind[MOST_TOKENS];
        // At first the token; when the plan is settled the number, or the parish and the notice.
        private final int[] firsts = new int[MOST_TOKENS];
        private final int[] seconds = new int[MOST_TOKENS];
        private final int[] stack = new int[MOST_TOKENS];
        private int size = 0;
        private int top = 0;

        void add(Kind kind, int token) {
            if (size < MOST_TOKENS) {
                kinds[size] = kind;
                firsts[size] = token;
                seconds[size] = 0;
                size++;
            }
        }

        void settle(Tokens tokens) {
            for (int i = 0; i < size; i++) {
                int token = firsts[i];
                if (kinds[i] == Kind.NUMBER) {
                    firsts[i] = (int) tokens.worthAt(token);
                } else if (token != NONE) {
                    firsts[i] = tokens.meaningAt(token + 1);
                    seconds[i] = tokens.meaningAt(token + 2);
                }
            }
        }

        int reckon(int from, int to, World world) {
            top = 0;
            for (int i = from; i < to && i < size; i++) {
                Kind kind = kinds[i];
                switch (kind) {
                    case NUMBER:
                        push(firsts[i]);
                        break;
                    case DAY:
                    case VALUE:
                    case SHEETS:
                    case MARKS:
                    case WAITS:
                    case TORN:
                    case KNOWN:
                        push(world.answer(kind, firsts[i], seconds[i]));
                        break;
                    case TURN:
                        push(-pop());
                        break;
                    case NOT:
                        push(1 - pop());
                        break;
                    default:
                        int right = pop();
                        int left = pop();
                        push(joined(kind, left, right));
                        break;
                }
            }
            return pop();
        }

        private static int joined(Kind kind, int left, int right) {
            switch (kind) {
                case PLUS:
                    return left + right;
                case MINUS:
                    return left - right;
                case TIMES:
                    return left * right;
                case OVER:
                    return right == 0 ? 0 : left / right;
                case MIN:
                    return Math.min(left, right);
                case MAX:
                    return Math.max(left, right);
                case AND:
                    return left & right;
                case OR:
                    return left | right;
                default:
                    return compares(kind, left, right) ? 1 : 0;
            }
        }

        private static boolean compares(Kind kind, int left, int right) {
            switch (kind) {
                case LESS:
                    return left < right;
                case GREATER:
                    return left > right;
                case EQUAL:
                    return left == right;
                case AT_MOST:
                    return left <= right;
                case AT_LEAST:
                    return left >= right;
                default:
                    return false;
            }
        }

        private void push(int number) {
            if (top < stack.length) {
                stack[top] = number;
                top++;
            }
        }

        private int pop() {
            if (top <= 0) {
                return 0;
            }
            top--;
            return stack[top];
        }
    }

    /** A line with write, note, merge or send; its sum and its test are parts of the plan's code. */
    private static final class Order {
        private Kind kind = Kind.SEND;
        private int token = 0;
        private int parish = 0;
        private int notice = 0;
        private int road = 0;
        private int by = BY_LEAST;
        private int start = 0;
        private int middle = 0;
        private int end = 0;

        void settle(Tokens tokens) {
            int first = tokens.meaningAt(token + 1);
            if (kind == Kind.SEND) {
                road = first;
            } else {
                parish = first;
                notice = tokens.meaningAt(token + 2);
            }
        }

        boolean hasTest() {
            return end > middle;
        }
    }

    /** What a list tells. */
    private static final class Plan {
        private final Code code = new Code();
        private final Road[] roads = new Road[MOST_ROADS];
        // One place more than there can be orders: what is told behind the last is an error, and kept nowhere.
        private final Order[] orders = new Order[MOST_ORDERS + 1];
        private int parishes = 0;
        private int notices = 0;
        private int roadCount = 0;
        private int orderCount = 0;

        Plan() {
            for (int i = 0; i < roads.length; i++) {
                roads[i] = new Road();
            }
            for (int i = 0; i < orders.length; i++) {
                orders[i] = new Order();
            }
        }

        void clear() {
            code.size = 0;
            parishes = 0;
            notices = 0;
            roadCount = 0;
            orderCount = 0;
        }

        Order nextOrder() {
            Order order = orders[orderCount];
            if (orderCount < MOST_ORDERS) {
                orderCount++;
            }
            return order;
        }

        void settle(Tokens tokens) {
            code.settle(tokens);
            for (int i = 0; i < orderCount; i++) {
                orders[i].settle(tokens);
            }
        }
    }

    /** All that days change, and how they do. */
    private static final class World {
        private final Sheet[] sheets = new Sheet[MOST_SHEETS];
        private final Board[] boards = new Board[MOST_PARISHES];
        private final Road[] roads = new Road[MOST_ROADS];
        private Plan plan;
        private int day = 0;
        private int sheetCount = 0;
        private int hung = 0;
        private int carriedOut = 0;

        World(Plan first) {
            plan = first;
            for (int i = 0; i < sheets.length; i++) {
                sheets[i] = new Sheet();
            }
            for (int i = 0; i < boards.length; i++) {
                boards[i] = new Board();
            }
            for (int i = 0; i < roads.length; i++) {
                roads[i] = new Road();
            }
        }

        void begin(Plan told) {
            plan = told;
            day = 0;
            sheetCount = 0;
            hung = 0;
            carriedOut = 0;
            for (Board board : boards) {
                board.clear();
            }
            for (int i = 0; i < plan.roadCount; i++) {
                roads[i].copyFrom(plan.roads[i]);
            }
        }

        void copyFrom(World other) {
            plan = other.plan;
            day = other.day;
            sheetCount = other.sheetCount;
            hung = other.hung;
            carriedOut = other.carriedOut;
            for (int i = 0; i < sheetCount; i++) {
                sheets[i].copyFrom(other.sheets[i]);
            }
            for (int i = 0; i < plan.parishes; i++) {
                boards[i].copyFrom(other.boards[i]);
            }
            for (int i = 0; i < plan.roadCount; i++) {
                roads[i].copyFrom(other.roads[i]);
            }
        }

        // -- what there is

        int tally(int what) {
            switch (what) {
                case 0:
                    return day;
                case 1:
                    return plan.parishes;
                case 2:
                    return plan.notices;
                case 3:
                    return plan.roadCount;
                case 4:
                    return plan.orderCount;
                case 5:
                    return sheetCount;
                case 6:
                    return underWayOnRoads();
                case 7:
                    return waitingAtBoards();
                case 8:
                    return tornOnBoards();
                case 9:
                    return hung;
                case 10:
                    return mergedSheets();
                case 11:
                    return carriedOut;
                default:
                    return 0;
            }
        }

        int parishFact(int parish, int what) {
            Board board = boards[parish];
            switch (what) {
                case 0:
                    return board.knownCount();
                case 1:
                    return board.waitingCount;
                case 2:
                    return board.noticesWith(1);
                case 3:
                    return board.noticesWith(2);
                case 4:
                    return board.numbers[parish];
                case 5:
                    return roadsFrom(parish);
                default:
                    return 0;
            }
        }

        int sheetFact(int number, int what) {
            Sheet sheet = sheets[number];
            switch (what) {
                case 0:
                    return sheet.parish;
                case 1:
                    return sheet.notice;
                case 2:
                    return sheet.value;
                case 3:
                    return sheet.marks;
                case 4:
                    return sheet.day;
                case 5:
                    return sheet.how;
                case 6:
                    return knowers(number);
                case 7:
                    return showers(number);
                default:
                    return 0;
            }
        }

        int roadFact(int number, int what) {
            Road road = roads[number];
            switch (what) {
                case 0:
                    return road.from;
                case 1:
                    return road.to;
                case 2:
                    return road.days;
                case 3:
                    return underWayOn(road);
                case 4:
                    return road.sendings;
                default:
                    return 0;
            }
        }

        boolean isKnownAt(int parish, int sheet) {
            return boards[parish].has(sheets[sheet]);
        }

        int knowers(int sheet) {
            int knowing = 0;
            for (int p = 0; p < plan.parishes; p++) {
                knowing += isKnownAt(p, sheet) ? 1 : 0;
            }
            return knowing;
        }

        int knownOnBoards() {
            int all = 0;
            for (int p = 0; p < plan.parishes; p++) {
                all += boards[p].knownCount();
            }
            return all;
        }

        private int showers(int number) {
            Sheet sheet = sheets[number];
            int showing = 0;
            for (int p = 0; p < plan.parishes; p++) {
                showing += boards[p].shownFrom(sheet.notice, sheet.parish) == number ? 1 : 0;
            }
            return showing;
        }

        private int roadsFrom(int parish) {
            int leading = 0;
            for (int r = 0; r < plan.roadCount; r++) {
                leading += roads[r].from == parish ? 1 : 0;
            }
            return leading;
        }

        private int underWayOnRoads() {
            int all = 0;
            for (int r = 0; r < plan.roadCount; r++) {
                all += underWayOn(roads[r]);
            }
            return all;
        }

        /** What has come came on a day that has gone by, so that the day to come tells all that is under way. */
        private int underWayOn(Road road) {
            int underWay = 0;
            for (int s = 0; s < sheetCount; s++) {
                underWay += road.comesOn[s] >= day ? 1 : 0;
            }
            return underWay;
        }

        private int waitingAtBoards() {
            int all = 0;
            for (int p = 0; p < plan.parishes; p++) {
                all += boards[p].waitingCount;
            }
            return all;
        }

        private int tornOnBoards() {
            int all = 0;
            for (int p = 0; p < plan.parishes; p++) {
                all += boards[p].noticesWith(2);
            }
            return all;
        }

        private int mergedSheets() {
            int all = 0;
            for (int s = 0; s < sheetCount; s++) {
                all += sheets[s].how == MERGED ? 1 : 0;
            }
            return all;
        }

        /** What day, value, sheets, marks, waits, torn and known tell in sums and tests. */
        int answer(Kind what, int parish, int notice) {
            Board board = boards[parish];
            switch (what) {
                case DAY:
                    return day;
                case VALUE:
                    int first = board.shownAt(notice, 0);
                    return first == NONE ? 0 : sheets[first].value;
                case SHEETS:
                    return board.shownCount(notice);
                case MARKS:
                    return Integer.bitCount(marksShown(board, notice));
                case WAITS:
                    return board.waitingCount;
                case TORN:
                    return board.shownCount(notice) >= 2 ? 1 : 0;
                case KNOWN:
                    return board.shownCount(notice) >= 1 ? 1 : 0;
                default:
                    return 0;
            }
        }

        private int marksShown(Board board, int notice) {
            int marks = 0;
            for (int p = 0; p < plan.parishes; p++) {
                int number = board.shownFrom(notice, p);
                marks |= number == NONE ? 0 : sheets[number].marks;
            }
            return marks;
        }

        // -- making sheets

        boolean isFull() {
            return sheetCount >= MOST_SHEETS;
        }

        boolean canNote(int parish, int notice) {
            return boards[parish].shownCount(notice) == 1;
        }

        boolean canMerge(int parish, int notice) {
            return boards[parish].shownCount(notice) >= 2;
        }

        int makeWritten(int parish, int notice, int value) {
            int marks = marksShown(boards[parish], notice);
            return make(parish, notice, value, marks, WRITTEN);
        }

        int makeNoted(int parish, int notice, int mark) {
            int marks = marksShown(boards[parish], notice) | 1 << mark;
            return make(parish, notice, answer(Kind.VALUE, parish, notice), marks, NOTED);
        }

        int makeMerged(int parish, int notice, int by) {
            Board board = boards[parish];
            int least = MOST_VALUE;
            int most = 0;
            int sum = 0;
            for (int p = 0; p < plan.parishes; p++) {
                int number = board.shownFrom(notice, p);
                if (number != NONE) {
                    int value = sheets[number].value;
                    least = Math.min(least, value);
                    most = Math.max(most, value);
                    sum += value;
                }
            }
            int merged = by == BY_LEAST ? least : by == BY_MOST ? most : Math.min(sum, MOST_VALUE);
            return make(parish, notice, merged, marksShown(board, notice), MERGED);
        }

        private int make(int parish, int notice, int value, int marks, int how) {
            if (isFull()) {
                return NONE;
            }
            int number = sheetCount;
            sheetCount++;
            Board board = boards[parish];
            board.numbers[parish]++;
            Sheet sheet = sheets[number];
            sheet.parish = parish;
            sheet.notice = notice;
            sheet.value = value;
            sheet.marks = marks;
            sheet.day = day;
            sheet.how = how;
            System.arraycopy(board.numbers, 0, sheet.stamp, 0, MOST_PARISHES);
            for (int p = 0; p < plan.parishes; p++) {
                board.show(notice, p, p == parish ? number : NONE);
            }
            return number;
        }

        // -- roads and days

        int carry(int number) {
            Road road = roads[number];
            Board board = boards[road.from];
            int carried = 0;
            for (int s = 0; s < sheetCount; s++) {
                if (road.comesOn[s] == NONE && board.has(sheets[s])) {
                    road.comesOn[s] = day + road.days;
                    carried++;
                }
            }
            if (carried > 0) {
                road.sendings++;
            }
            return carried;
        }

        void passDays(int days) {
            for (int i = 0; i < days; i++) {
                for (int o = 0; o < plan.orderCount; o++) {
                    carriedOut += carriesOut(plan.orders[o]) ? 1 : 0;
                }
                for (int r = 0; r < plan.roadCount; r++) {
                    bringFrom(roads[r]);
                }
                for (int p = 0; p < plan.parishes; p++) {
                    hangOn(boards[p]);
                }
                day++;
            }
        }

        private boolean carriesOut(Order order) {
            if (order.hasTest() && plan.code.reckon(order.middle, order.end, this) == 0) {
                return false;
            }
            if (order.kind == Kind.SEND) {
                return carry(order.road) > 0;
            }
            if (isFull()) {
                return false;
            }
            if (order.kind == Kind.MERGE) {
                return canMerge(order.parish, order.notice)
                        && makeMerged(order.parish, order.notice, order.by) != NONE;
            }
            int sum = plan.code.reckon(order.start, order.middle, this);
            if (order.kind == Kind.NOTE) {
                return isNewMark(order.parish, order.notice, sum)
                        && makeNoted(order.parish, order.notice, sum) != NONE;
            }
            int value = Math.max(0, Math.min(sum, MOST_VALUE));
            return makeWritten(order.parish, order.notice, value) != NONE;
        }

        private boolean isNewMark(int parish, int notice, int mark) {
            return isMark(mark) && canNote(parish, notice)
                    && (marksShown(boards[parish], notice) >> mark & 1) == 0;
        }

        /** In what order sheets come on one day can't be seen: none is hung before all have come. */
        private void bringFrom(Road road) {
            Board board = boards[road.to];
            for (int s = 0; s < sheetCount; s++) {
                if (road.comesOn[s] == day && !board.has(sheets[s])) {
                    board.keepWaiting(s);
                }
            }
        }

        /**
         * Once by numbers is enough: whatever a sheet has to wait for was made before it and has a smaller
         * number, so that hanging one never sets a smaller one free.
         */
        private void hangOn(Board board) {
            for (int s = 0; s < sheetCount && board.waitingCount > 0; s++) {
                if (board.waits[s] && board.canHang(sheets[s])) {
                    hang(board, s);
                }
            }
        }

        private void hang(Board board, int number) {
            Sheet sheet = sheets[number];
            board.endWaiting(number);
            board.numbers[sheet.parish]++;
            for (int p = 0; p < plan.parishes; p++) {
                int other = board.shownFrom(sheet.notice, p);
                if (other != NONE && sheets[other].isAheadOf(sheet)) {
                    board.show(sheet.notice, p, NONE);
                }
            }
            board.show(sheet.notice, sheet.parish, number);
            hung++;
        }
    }

    /** A board shows at most one sheet of each parish and notice, since of two the one is ahead of the other. */
    private static final class Board {
        private final int[] numbers = new int[MOST_PARISHES];
        private final int[] shownSheets = new int[MOST_NOTICES * MOST_PARISHES];
        private final boolean[] waits = new boolean[MOST_SHEETS];
        private int waitingCount = 0;

        Board() {
            clear();
        }

        void clear() {
            for (int i = 0; i < numbers.length; i++) {
                numbers[i] = 0;
            }
            for (int i = 0; i < shownSheets.length; i++) {
                shownSheets[i] = NONE;
            }
            for (int i = 0; i < waits.length; i++) {
                waits[i] = false;
            }
            waitingCount = 0;
        }

        void copyFrom(Board other) {
            System.arraycopy(other.numbers, 0, numbers, 0, numbers.length);
            System.arraycopy(other.shownSheets, 0, shownSheets, 0, shownSheets.length);
            System.arraycopy(other.waits, 0, waits, 0, waits.length);
            waitingCount = other.waitingCount;
        }

        boolean has(Sheet sheet) {
            return numbers[sheet.parish] >= sheet.stamp[sheet.parish];
        }

        int knownCount() {
            int all = 0;
            for (int number : numbers) {
                all += number;
            }
            return all;
        }

        boolean canHang(Sheet sheet) {
            for (int p = 0; p < numbers.length; p++) {
                int due = p == sheet.parish ? sheet.stamp[p] - 1 : sheet.stamp[p];
                if (p == sheet.parish ? numbers[p] != due : numbers[p] < due) {
                    return false;
                }
            }
            return true;
        }

        void keepWaiting(int sheet) {
            if (!waits[sheet]) {
                waits[sheet] = true;
                waitingCount++;
            }
        }

        void endWaiting(int sheet) {
            if (waits[sheet]) {
                waits[sheet] = false;
                waitingCount--;
            }
        }

        void show(int notice, int parish, int sheet) {
            shownSheets[notice * MOST_PARISHES + parish] = sheet;
        }

        /** The sheet of the notice that was made at the parish, if the board shows it. */
        int shownFrom(int notice, int parish) {
            return shownSheets[notice * MOST_PARISHES + parish];
        }

        int shownAt(int notice, int place) {
            int left = place;
            for (int p = 0; p < MOST_PARISHES && left >= 0; p++) {
                int sheet = shownFrom(notice, p);
                if (sheet != NONE && left == 0) {
                    return sheet;
                }
                left -= sheet == NONE ? 0 : 1;
            }
            return NONE;
        }

        int shownCount(int notice) {
            int all = 0;
            for (int p = 0; p < MOST_PARISHES; p++) {
                all += shownFrom(notice, p) == NONE ? 0 : 1;
            }
            return all;
        }

        int noticesWith(int leastSheets) {
            int all = 0;
            for (int notice = 0; notice < MOST_NOTICES; notice++) {
                all += shownCount(notice) >= leastSheets ? 1 : 0;
            }
            return all;
        }

        boolean showsAsMuchAs(Board other) {
            for (int i = 0; i < shownSheets.length; i++) {
                if (shownSheets[i] != other.shownSheets[i]) {
                    return false;
                }
            }
            return true;
        }
    }

    /** What is told of a sheet as it is made, and never changes. */
    private static final class Sheet {
        private final int[] stamp = new int[MOST_PARISHES];
        private int parish = 0;
        private int notice = 0;
        private int value = 0;
        private int marks = 0;
        private int day = 0;
        private int how = WRITTEN;

        void copyFrom(Sheet other) {
            System.arraycopy(other.stamp, 0, stamp, 0, stamp.length);
            parish = other.parish;
            notice = other.notice;
            value = other.value;
            marks = other.marks;
            day = other.day;
            how = other.how;
        }

        boolean isAheadOf(Sheet other) {
            return other.stamp[parish] >= stamp[parish];
        }
    }

    /** A road, and of each sheet the day on which it comes on it, NONE if it was not sent. */
    private static final class Road {
        private final int[] comesOn = new int[MOST_SHEETS];
        private int from = 0;
        private int to = 0;
        private int days = 1;
        private int sendings = 0;

        void lay(int start, int end, int daysLong) {
            from = start;
            to = end;
            days = daysLong;
            sendings = 0;
            for (int i = 0; i < comesOn.length; i++) {
                comesOn[i] = NONE;
            }
        }

        void copyFrom(Road other) {
            System.arraycopy(other.comesOn, 0, comesOn, 0, comesOn.length);
            from = other.from;
            to = other.to;
            days = other.days;
            sendings = other.sendings;
        }
    }
}
