import java.util.NoSuchElementException;

/** Bulk deletion through many indexes; see README.md, and shared/DOC.md for the promises. */
public final class LeafSweep {
    public static final int NONE = -1;

    private static final int GONE = -2;
    private static final int OVER = -2;
    private static final int OTHERS = -2;
    private static final int NO_POINTER = -3;

    private static final int INDEXES = 4;
    private static final int COLUMNS = 3;
    private static final int ROWS = 30;
    private static final int ROWS_TOLD = 20;
    private static final int POINTERS = 12;
    private static final int POINTERS_TOLD = 8;
    private static final int LINES = 40;
    private static final int LIMITS = 12;
    private static final int SIDES = 40;
    private static final int RECORDS = ROWS * INDEXES;
    private static final int RECORD_PARTS = 3;
    private static final int UNDOS = 16;
    private static final int SIGNS = 1000;
    private static final int TOP = 999;
    private static final int MEMORY = 8;
    private static final int MOST_STEPS = 150;
    private static final int MOST_CRASHED = 200;

    /** Where the JOB is AT when it is behind all INDEXES. */
    private static final int BEHIND = 4;
    private static final int PASS = 0;
    private static final int PROBING = 1;

    /** How the SIDE list tells a ROW and a value in one number. */
    private static final int SIDE_ROW = 1000;
    private static final int SIDE_TAKEN = 40000;

    private static final int KIND_DOWN = 1;
    private static final int KIND_ONCE = 2;
    private static final int KIND_PARTIAL = 3;
    private static final int SORT_FIRM = 0;
    private static final int SORT_LOOSE = 1;
    private static final int SORT_BOUND = 2;

    private static final int FAULT_PLACE = 1;
    private static final int FAULT_UNKNOWN = 2;
    private static final int FAULT_AGAIN = 3;
    private static final int FAULT_NUMBER = 4;
    private static final int FAULT_MANY = 5;

    /** The words of the language; the constants behind it are their places in this list. */
    private static final String LANGUAGE = "page batch index on row point at choose part insert remove change begin step stop crash resume pack plain down once partial firm loose bound a b c from to is over every twin pointed not and or ";
    private static final int LANGUAGE_WORDS = 38;
    private static final int W_PAGE = 0;
    private static final int W_BATCH = 1;
    private static final int W_INDEX = 2;
    private static final int W_ON = 3;
    private static final int W_ROW = 4;
    private static final int W_POINT = 5;
    private static final int W_AT = 6;
    private static final int W_CHOOSE = 7;
    private static final int W_PART = 8;
    private static final int W_INSERT = 9;
    private static final int W_REMOVE = 10;
    private static final int W_CHANGE = 11;
    private static final int W_BEGIN = 12;
    private static final int W_STEP = 13;
    private static final int W_STOP = 14;
    private static final int W_CRASH = 15;
    private static final int W_RESUME = 16;
    private static final int W_PACK = 17;
    private static final int W_PLAIN = 18;
    private static final int W_PARTIAL = 21;
    private static final int W_FIRM = 22;
    private static final int W_BOUND = 24;
    private static final int W_A = 25;
    private static final int W_C = 27;
    private static final int W_FROM = 28;
    private static final int W_TO = 29;
    private static final int W_IS = 30;
    private static final int W_OVER = 31;
    private static final int W_EVERY = 32;
    private static final int W_TWIN = 33;
    private static final int W_POINTED = 34;
    private static final int W_NOT = 35;
    private static final int W_AND = 36;
    private static final int W_OR = 37;

    private final Tape tape = new Tape();
    private final Reader reader = new Reader(tape);
    private final Bench bench = new Bench();
    private final State[] past = new State[UNDOS];
    private int oldest = 0;
    private int kept = 0;
    private int cursorIndex = NONE;
    private int cursorKey = 0;
    /** The ENTRY of the last one fetched, as it was then; NONE: none yet. */
    private int fetched = NONE;
    private Plan plan = new Plan();
    private Plan draftPlan = new Plan();
    private Lines lines = new Lines();
    private Lines draftLines = new Lines();
    private State now;
    private State spare;
    private final State trial;

    public LeafSweep() {
        now = new State(plan);
        spare = new State(plan);
        trial = new State(plan);
        for (int i = 0; i < UNDOS; i++) {
            past[i] = new State(plan);
        }
    }

    // ---- the tape, the table, the work

    public int feed(long a, long b, long c) {
        tape.lay(a);
        tape.lay(b);
        tape.lay(c);
        return tape.length;
    }

    public int table() {
        int fault = reader.readPlan(draftPlan);
        tape.length = 0;
        if (fault != 0) {
            return fault;
        }
        Plan old = plan;
        plan = draftPlan;
        draftPlan = old;
        now.startFrom(plan);
        lines.told = 0;
        cursorIndex = NONE;
        kept = 0;
        return 0;
    }

    public int work() {
        int fault = reader.readLines(plan, draftLines);
        tape.length = 0;
        if (fault != 0) {
            return fault;
        }
        Lines old = lines;
        lines = draftLines;
        draftLines = old;
        return 0;
    }

    // ---- what stands in the table

    public int row(int row, int what) {
        if (!now.rows.hasCome(row)) {
            return NONE;
        }
        switch (what) {
            case 0:
            case 1:
            case 2:
                return now.rows.valueOf(row, what);
            case 3:
                return (now.rows.there >> row) & 1;
            case 4:
                return (now.rows.chosen >> row) & 1;
            case 5:
                return now.treesHolding(row);
            default:
                return NONE;
        }
    }

    public int index(int index, int what) {
        if (!isIndex(index)) {
            return NONE;
        }
        Leaves tree = now.trees[index];
        switch (what) {
            case 0:
                return plan.kind[index];
            case 1:
                return plan.column[index];
            case 2:
                return tree.entries;
            case 3:
                return tree.leaves;
            case 4:
                return tree.height();
            default:
                return NONE;
        }
    }

    public int leaf(int index, int k, int i) {
        return isIndex(index) ? now.trees[index].rowAt(k, i) : NONE;
    }

    public int pointer(int pointer, int what) {
        if (!now.points.hasCome(pointer)) {
            return NO_POINTER;
        }
        switch (what) {
            case 0:
                return now.points.sort[pointer];
            case 1:
                return now.points.target[pointer];
            default:
                return NO_POINTER;
        }
    }

    // ---- by hand

    public int insert(int a, int b, int c) {
        spare.become(now);
        int row = now.admit(a, b, c);
        if (row != NONE) {
            remember();
        }
        return row;
    }

    public boolean remove(int row) {
        spare.become(now);
        return rememberIf(now.expel(row));
    }

    public boolean change(int row, int column, int value) {
        spare.become(now);
        return rememberIf(now.amend(row, column, value));
    }

    public int point(int sort, int value) {
        spare.become(now);
        int pointer = now.aim(sort, value);
        if (pointer != NONE) {
            remember();
        }
        return pointer;
    }

    public boolean drop(int pointer) {
        spare.become(now);
        return rememberIf(now.points.discard(pointer));
    }

    public int begin(int index, int low, int high) {
        if (index != NONE && !isIndex(index)) {
            return NONE;
        }
        spare.become(now);
        if (!now.launch(index, low, high)) {
            return NONE;
        }
        remember();
        return Integer.bitCount(now.rows.chosen);
    }

    public int step() {
        spare.become(now);
        int row = now.advance();
        if (row != NONE) {
            remember();
        }
        return row;
    }

    public boolean stop() {
        spare.become(now);
        return rememberIf(now.halt());
    }

    public int crash() {
        int lost = now.fall();
        if (lost != NONE) {
            kept = 0;
        }
        return lost;
    }

    public int resume() {
        spare.become(now);
        if (!now.rise()) {
            return NONE;
        }
        remember();
        return now.leftWhereAt();
    }

    public int pack(int index) {
        if (!isIndex(index)) {
            return NONE;
        }
        spare.become(now);
        int fewer = now.join(index);
        if (fewer != NONE) {
            remember();
        }
        return fewer;
    }

    public boolean undo() {
        if (kept == 0) {
            return false;
        }
        kept--;
        int slot = (oldest + kept) % UNDOS;
        State back = past[slot];
        past[slot] = now;
        now = back;
        return true;
    }

    public int judged(int what) {
        if (what < 0 || what > 2) {
            return OTHERS;
        }
        trial.startFrom(plan);
        int first = NONE;
        for (int i = 0; i < lines.told; i++) {
            if (!lines.play(i, trial) && first == NONE) {
                first = i;
            }
        }
        switch (what) {
            case 0:
                return first;
            case 1:
                return Integer.bitCount(trial.rows.visible());
            default:
                return trial.spent;
        }
    }

    // ---- what readers see

    public int found(int index, int key) {
        if (!isIndex(index)) {
            return NONE;
        }
        return now.rows.having(plan.column[index], key) & now.readable(index);
    }

    public boolean open(int index, int key) {
        if (!isIndex(index)) {
            return false;
        }
        cursorIndex = index;
        cursorKey = key;
        fetched = NONE;
        return true;
    }

    public int fetch() {
        if (!isIndex(cursorIndex)) {
            return NONE;
        }
        int readable = now.readable(cursorIndex);
        int best = NONE;
        for (int r = 0; r < now.rows.come; r++) {
            int code = now.codeOf(cursorIndex, r);
            boolean fit = (readable >> r & 1) != 0 && code > fetched && !isAheadOfKey(r);
            if (fit && (best == NONE || code < best)) {
                best = code;
            }
        }
        if (best == NONE) {
            return NONE;
        }
        fetched = best;
        return Leaves.rowIn(best);
    }

    public int rank(int index, int row) throws NoSuchElementException {
        int readable = isIndex(index) ? now.readable(index) : 0;
        if (!now.rows.hasCome(row) || (readable >> row & 1) == 0) {
            throw new NoSuchElementException("no visible row of that index");
        }
        int own = now.codeOf(index, row);
        int ahead = 0;
        for (int r = 0; r < now.rows.come; r++) {
            if ((readable >> r & 1) != 0 && now.codeOf(index, r) < own) {
                ahead++;
            }
        }
        return ahead;
    }

    public int skips(int index, int key) {
        if (!isIndex(index)) {
            return NONE;
        }
        return now.trees[index].withValue(key, now.rows.chosen | now.staleRows(index));
    }

    public int stale(int index) {
        return isIndex(index) ? now.staleRows(index) : NONE;
    }

    public int missing(int index) {
        return isIndex(index) ? now.missingRows(index) : NONE;
    }

    public int side(int i) {
        if (!now.job.on || i < 0 || i >= now.job.sides) {
            return Integer.MIN_VALUE;
        }
        return now.job.side[i];
    }

    public boolean splits(int index, int key) {
        if (!isIndex(index) || key < 0 || key > TOP) {
            return false;
        }
        Leaves tree = now.trees[index];
        return tree.wouldSplit(tree.code(key, now.rows.come));
    }

    public int fill(int index) {
        if (!isIndex(index)) {
            return NONE;
        }
        Leaves tree = now.trees[index];
        int room = tree.leaves * plan.page;
        return room > 0 ? 100 * tree.entries / room : 0;
    }

    public int sparse(int index) {
        return isIndex(index) ? now.trees[index].underHalf() : NONE;
    }

    // ---- what the ways cost, and what comes next

    public int costs(int index, int what) {
        if (!isIndex(index)) {
            return NONE;
        }
        switch (what) {
            case 0:
                return now.trees[index].passCost(now.doomed());
            case 1:
                return now.trees[index].probeCost(now.doomed());
            default:
                return NONE;
        }
    }

    public int ways() {
        int doomed = now.doomed();
        int bits = 0;
        for (int i = 0; i < plan.indexes; i++) {
            if (now.trees[i].wayFor(doomed) == PASS) {
                bits |= 1 << i;
            }
        }
        return bits;
    }

    public int turn(int index) {
        if (!isIndex(index)) {
            return NONE;
        }
        Leaves tree = now.trees[index];
        int all = tree.rowBits();
        int taken = 0;
        for (int r = 0; r < ROWS; r++) {
            taken |= all & (1 << r);
            if (tree.wayFor(taken) == PROBING) {
                return Integer.bitCount(taken);
            }
        }
        return NONE;
    }

    public int lefts(int index, int k) {
        return isIndex(index) ? now.trees[index].leftIn(k, now.doomed()) : NONE;
    }

    public int when(int index, int row) {
        if (!now.job.on || !isIndex(index) || !now.rows.hasCome(row)) {
            return NONE;
        }
        if ((now.leftOf(index) >> row & 1) == 0) {
            return NONE;
        }
        trial.becomeRisen(now);
        for (int steps = 1; steps <= MOST_CRASHED; steps++) {
            int at = trial.job.at;
            if (trial.advance() == row && at == index) {
                return steps;
            }
        }
        return NONE;
    }

    public int next(int index, int i) {
        if (!isIndex(index)) {
            return NONE;
        }
        int doomed = now.doomed();
        int way = now.job.isAt(index) ? now.job.way : now.trees[index].wayFor(doomed);
        return now.trees[index].leftAt(i, doomed, way);
    }

    public int job(int what) {
        if (!now.job.on) {
            return NONE;
        }
        switch (what) {
            case 0:
                return now.job.at;
            case 1:
                return now.job.way;
            case 2:
                return now.rows.chosen;
            case 3:
                return now.job.since;
            case 4:
                return now.job.records;
            case 5:
                return now.job.down ? 1 : 0;
            case 6:
                return now.job.sides;
            default:
                return NONE;
        }
    }

    public int record(int k, int what) {
        if (!now.job.on || k < 0 || k >= now.job.records || what < 0 || what >= RECORD_PARTS) {
            return NONE;
        }
        return now.job.record[k * RECORD_PARTS + what];
    }

    // ---- what would be

    public int steps() {
        if (!now.job.on) {
            return NONE;
        }
        int left = 0;
        for (int i = 0; i < plan.indexes; i++) {
            left += Integer.bitCount(now.leftOf(i));
        }
        return left + 1;
    }

    public int after(int steps, int what) {
        if (steps < 0 || steps > MOST_STEPS || what < 0 || what > 3) {
            return OTHERS;
        }
        trial.becomeRisen(now);
        trial.advanceBy(steps);
        switch (what) {
            case 0:
                return trial.job.on ? trial.job.at : NONE;
            case 1:
                return trial.spent;
            case 2:
                return trial.leavesOfAll();
            default:
                return trial.job.on ? trial.job.records : 0;
        }
    }

    public int during(int steps, int a, int b, int c, int what) {
        if (steps < 0 || steps > MOST_STEPS || what < 0 || what > 2 || !areValues(a, b, c)) {
            return OTHERS;
        }
        trial.becomeRisen(now);
        trial.advanceBy(steps);
        int row = trial.admit(a, b, c);
        trial.advanceBy(MOST_CRASHED);
        switch (what) {
            case 0:
                return row;
            case 1:
                return trial.spent;
            default:
                return trial.leavesOfAll();
        }
    }

    public int crashes(int n, int batch) {
        if (!now.job.on || n < 1 || n > 50 || batch < 1 || batch > 8) {
            return NONE;
        }
        trial.becomeRisen(now);
        trial.batch = batch;
        for (int steps = 1; steps <= MOST_CRASHED; steps++) {
            trial.advance();
            if (!trial.job.on) {
                return steps;
            }
            if (steps % n == 0) {
                trial.fall();
                trial.rise();
            }
        }
        return NONE;
    }

    // ---- sorting in a small memory

    public int runs(int index, int memory) {
        return sorted(index, memory) ? bench.runs : NONE;
    }

    public int run(int index, int memory, int k) {
        return sorted(index, memory) && k >= 0 && k < bench.runs ? bench.length[k] : NONE;
    }

    public int merged(int index, int memory) {
        return sorted(index, memory) ? bench.mergeCost() : NONE;
    }

    // ---- pointers and what hinders

    public int check(int what) {
        switch (what) {
            case 0:
                return bench.comparisons(now, now.doomed());
            case 1:
                return now.singlyCost();
            default:
                return NONE;
        }
    }

    public int hinders() {
        return now.hindering(now.eligible(NONE, 0, 0));
    }

    public boolean fits(int row, int what) {
        if (!now.rows.isVisible(row)) {
            return false;
        }
        switch (what) {
            case 0:
                return plan.choose.holds(now, row);
            case 1:
                return plan.part.holds(now, row);
            default:
                return false;
        }
    }

    public int needs(int pointer) {
        if (!now.points.hasCome(pointer)) {
            return NONE;
        }
        return now.rows.having(0, now.points.target[pointer]);
    }

    public boolean free(int row) {
        return now.canExpel(row);
    }

    public int would(int a, int b, int c) {
        if (!areValues(a, b, c)) {
            return NONE;
        }
        if (now.rows.come >= ROWS) {
            return (1 << plan.indexes) - 1;
        }
        return now.onceClashes(0, a) | now.onceClashes(1, b) | now.onceClashes(2, c);
    }

    public int count(int what) {
        switch (what) {
            case 0:
                return plan.page;
            case 1:
                return plan.batch;
            case 2:
                return plan.indexes;
            case 3:
                return now.rows.come;
            case 4:
                return now.rows.visible();
            case 5:
                return now.points.come;
            case 6:
                return now.spent;
            case 7:
                return lines.told;
            case 8:
                return kept;
            case 9:
                return tape.length;
            default:
                return NONE;
        }
    }

    // ---- helpers of the face

    private boolean isIndex(int index) {
        return index >= 0 && index < plan.indexes;
    }

    private boolean isAheadOfKey(int row) {
        int value = now.rows.valueOf(row, plan.column[cursorIndex]);
        return plan.kind[cursorIndex] == KIND_DOWN ? value > cursorKey : value < cursorKey;
    }

    private static boolean isValue(int value) {
        return value >= 0 && value <= TOP;
    }

    private static boolean areValues(int a, int b, int c) {
        return isValue(a) && isValue(b) && isValue(c);
    }

    /** The state ahead of what has just been done (it lies in spare) can be gone back to. */
    private void remember() {
        int slot = (oldest + kept) % UNDOS;
        if (kept < UNDOS) {
            kept++;
        } else {
            oldest = (oldest + 1) % UNDOS;
        }
        State free = past[slot];
        past[slot] = spare;
        spare = free;
    }

    private boolean rememberIf(boolean done) {
        if (done) {
            remember();
        }
        return done;
    }

    private boolean sorted(int index, int memory) {
        if (!isIndex(index) || memory < 1 || memory > MEMORY) {
            return false;
        }
        bench.sort(now.trees[index], now.doomed(), memory);
        return true;
    }

    /** The signs told, and the token that is read at the moment. */
    private static final class Tape {
        static final int END = 0;
        static final int WORD = 1;
        static final int NUMBER = 2;
        static final int MARK = 3;
        static final int BAD = 4;
        static final int BLANK = 5;
        static final int WORD_SIGNS = 8;
        static final int NUMBER_SIGNS = 4;

        final byte[] sign = new byte[SIGNS];
        /** What sort of token each sign is of. */
        final byte[] sortOf = new byte[SIGNS];
        final long[] keys = new long[LANGUAGE_WORDS];
        int length = 0;
        int place = 0;
        int behind = 0;
        int sort = END;
        /** The NUMBER, or the WORD's place in the language (NONE: another WORD). */
        int value = 0;
        /** The letters of the WORD, five bits each. */
        long letters = 0;

        Tape() {
            int word = 0;
            long packed = 0;
            for (int i = 0; i < LANGUAGE.length() && word < LANGUAGE_WORDS; i++) {
                char c = LANGUAGE.charAt(i);
                if (c == ' ') {
                    keys[word] = packed;
                    word++;
                    packed = 0;
                } else {
                    packed = packed * 32 + (c - 'a' + 1);
                }
            }
        }

        void lay(long bytes) {
            for (int shift = 56; shift >= 0; shift -= 8) {
                int c = (int) (bytes >> shift & 255);
                if ((c == 10 || c >= 32 && c <= 126) && length < SIGNS) {
                    sign[length] = (byte) c;
                    sortOf[length] = (byte) sortFor(c);
                    length++;
                }
            }
        }

        private static int sortFor(int c) {
            if (c == 10 || c == 32) {
                return BLANK;
            }
            if (c >= 'a' && c <= 'z') {
                return WORD;
            }
            if (c >= '0' && c <= '9') {
                return NUMBER;
            }
            return c == ';' ? MARK : BAD;
        }

        void rewind() {
            behind = 0;
            readOn();
        }

        void readOn() {
            place = behind;
            while (place < length && place < SIGNS && sortOf[place] == BLANK) {
                place++;
            }
            behind = place;
            sort = END;
            if (place < length && place < SIGNS) {
                sort = sortOf[place];
                behind++;
            }
            boolean isLong = sort == WORD || sort == NUMBER;
            while (isLong && behind < length && behind < SIGNS && sortOf[behind] == sort) {
                behind++;
            }
            readSigns();
        }

        /** The meaning of the signs from place to behind. */
        private void readSigns() {
            int size = behind - place;
            value = NONE;
            letters = 0;
            if (sort == WORD && size <= WORD_SIGNS) {
                for (int i = place; i < behind && i < SIGNS; i++) {
                    letters = letters * 32 + (sign[i] - 'a' + 1);
                }
                for (int i = 0; i < LANGUAGE_WORDS; i++) {
                    value = keys[i] == letters ? i : value;
                }
            } else if (sort == NUMBER && size <= NUMBER_SIGNS) {
                value = 0;
                for (int i = place; i < behind && i < SIGNS; i++) {
                    value = value * 10 + (sign[i] - '0');
                }
            } else if (sort == WORD || sort == NUMBER) {
                sort = BAD;
            }
        }

        boolean isWord(int word) {
            return sort == WORD && value == word;
        }

        /** Whether a WORD of the language stands here whose place in it is between these. */
        boolean isBetween(int first, int last) {
            return sort == WORD && value >= first && value <= last;
        }

        boolean isName() {
            return sort == WORD && value == NONE;
        }
    }

    /** Reads the tape as a TABLE or as a WORK, up to the first FAULT. */
    private static final class Reader {
        final Tape tape;
        private Plan plan = new Plan();
        private Lines lines = new Lines();
        private int fault = 0;
        private int number = 0;
        /** The WORDS page, batch, choose, part that have been, as bits. */
        private int been = 0;

        Reader(Tape tape) {
            this.tape = tape;
        }

        int readPlan(Plan into) {
            plan = into;
            plan.clear();
            been = 0;
            fault = 0;
            tape.rewind();
            boolean fine = true;
            for (int n = 0; n < SIGNS && fine && tape.sort != Tape.END; n++) {
                switch (tape.sort == Tape.WORD ? tape.value : NONE) {
                    case W_PAGE:
                        fine = pageLine();
                        break;
                    case W_BATCH:
                        fine = batchLine();
                        break;
                    case W_INDEX:
                        fine = indexLine();
                        break;
                    case W_ROW:
                        fine = rowLine();
                        break;
                    case W_POINT:
                        fine = pointLine();
                        break;
                    case W_CHOOSE:
                        fine = takeSingle() && whereLine(plan.choose, false);
                        break;
                    case W_PART:
                        fine = takeSingle() && whereLine(plan.part, true);
                        break;
                    default:
                        fine = wrong(FAULT_PLACE);
                        break;
                }
            }
            return fault;
        }

        int readLines(Plan from, Lines into) {
            plan = from;
            lines = into;
            lines.told = 0;
            fault = 0;
            tape.rewind();
            for (int n = 0; n < SIGNS && tape.sort != Tape.END; n++) {
                if (!workLine()) {
                    return fault;
                }
            }
            return 0;
        }

        private boolean wrong(int kind) {
            fault = kind + 16 * tape.place;
            return false;
        }

        private boolean takeWord(int word) {
            if (!tape.isWord(word)) {
                return wrong(FAULT_PLACE);
            }
            tape.readOn();
            return true;
        }

        private boolean takeMark() {
            if (tape.sort != Tape.MARK) {
                return wrong(FAULT_PLACE);
            }
            tape.readOn();
            return true;
        }

        /** One of some words that follow each other in the language: which of them goes into number. */
        private boolean takeOneOf(int first, int last) {
            if (!tape.isBetween(first, last)) {
                return wrong(FAULT_PLACE);
            }
            number = tape.value - first;
            tape.readOn();
            return true;
        }

        private boolean takeNumber(int low, int high) {
            if (tape.sort != Tape.NUMBER) {
                return wrong(FAULT_PLACE);
            }
            if (tape.value < low || tape.value > high) {
                return wrong(FAULT_NUMBER);
            }
            number = tape.value;
            tape.readOn();
            return true;
        }

        private boolean takeSingle() {
            int bit = 1 << tape.value;
            if ((been & bit) != 0) {
                return wrong(FAULT_AGAIN);
            }
            been |= bit;
            tape.readOn();
            return true;
        }

        private boolean pageLine() {
            if (!takeSingle() || !takeNumber(2, 8)) {
                return false;
            }
            plan.page = number;
            return takeMark();
        }

        private boolean batchLine() {
            if (!takeSingle() || !takeNumber(1, 8)) {
                return false;
            }
            plan.batch = number;
            return takeMark();
        }

        private boolean indexLine() {
            int i = plan.indexes;
            if (plan.rows > 0) {
                return wrong(FAULT_PLACE);
            }
            if (i >= INDEXES) {
                return wrong(FAULT_MANY);
            }
            tape.readOn();
            if (!tape.isName()) {
                return wrong(FAULT_PLACE);
            }
            if (plan.named(tape.letters) != NONE) {
                return wrong(FAULT_AGAIN);
            }
            plan.name[i] = tape.letters;
            tape.readOn();
            if (!takeOneOf(W_PLAIN, W_PARTIAL)) {
                return false;
            }
            plan.kind[i] = number;
            if (!takeWord(W_ON) || !takeOneOf(W_A, W_C)) {
                return false;
            }
            plan.column[i] = number;
            plan.indexes++;
            return takeMark();
        }

        private boolean rowLine() {
            if (plan.rows >= ROWS_TOLD) {
                return wrong(FAULT_MANY);
            }
            tape.readOn();
            for (int column = 0; column < COLUMNS; column++) {
                if (tape.sort == Tape.NUMBER && plan.onceHas(column, tape.value)) {
                    return wrong(FAULT_AGAIN);
                }
                if (!takeNumber(0, TOP)) {
                    return false;
                }
                plan.row[plan.rows * COLUMNS + column] = number;
            }
            plan.rows++;
            return takeMark();
        }

        private boolean pointLine() {
            int p = plan.points;
            if (p >= POINTERS_TOLD) {
                return wrong(FAULT_MANY);
            }
            tape.readOn();
            if (!takeOneOf(W_FIRM, W_BOUND)) {
                return false;
            }
            plan.sort[p] = number;
            if (!takeWord(W_AT)) {
                return false;
            }
            if (tape.sort == Tape.NUMBER && !plan.has(0, tape.value)) {
                return wrong(FAULT_UNKNOWN);
            }
            if (!takeNumber(0, TOP)) {
                return false;
            }
            plan.target[p] = number;
            plan.points++;
            return takeMark();
        }

        private boolean whereLine(Where where, boolean part) {
            boolean opens = true;
            for (int n = 0; n <= LIMITS; n++) {
                if (!openLimit(where, part, opens)) {
                    return false;
                }
                int i = where.limits - 1;
                boolean fine = tape.isBetween(W_A, W_C) ? columnLimit(where, i) : otherLimit(where, i);
                if (!fine) {
                    return false;
                }
                if (!tape.isWord(W_AND) && !tape.isWord(W_OR)) {
                    return takeMark();
                }
                opens = tape.isWord(W_OR);
                tape.readOn();
            }
            return wrong(FAULT_MANY);
        }

        private boolean startsLimit(boolean part) {
            if (tape.isBetween(W_A, W_C) || tape.isWord(W_EVERY)) {
                return true;
            }
            return !part && tape.isBetween(W_TWIN, W_POINTED);
        }

        /** A LIMIT up to the not, if it has one. */
        private boolean openLimit(Where where, boolean part, boolean opens) {
            boolean not = tape.isWord(W_NOT);
            if (!not && !startsLimit(part)) {
                return wrong(FAULT_PLACE);
            }
            int i = where.limits;
            if (i >= LIMITS) {
                return wrong(FAULT_MANY);
            }
            if (not) {
                tape.readOn();
                if (!startsLimit(part)) {
                    return wrong(FAULT_PLACE);
                }
            }
            where.not[i] = not;
            where.opens[i] = opens;
            where.limits++;
            return true;
        }

        /** A LIMIT of every, twin or pointed. */
        private boolean otherLimit(Where where, int i) {
            int word = tape.value;
            where.kind[i] = word;
            tape.readOn();
            if (word == W_EVERY) {
                return takeNumber(2, 9) && where.keepBounds(i, number, number);
            }
            return word == W_POINTED || takeOneOf(W_A, W_C) && where.keepColumn(i, number);
        }

        private boolean columnLimit(Where where, int i) {
            if (!takeOneOf(W_A, W_C)) {
                return false;
            }
            where.keepColumn(i, number);
            where.kind[i] = W_FROM;
            if (tape.isWord(W_OVER)) {
                where.kind[i] = W_OVER;
                tape.readOn();
                return takeOneOf(W_A, W_C) && where.keepBounds(i, number, number);
            }
            if (tape.isWord(W_IS)) {
                tape.readOn();
                return takeNumber(0, TOP) && where.keepBounds(i, number, number);
            }
            if (!takeWord(W_FROM) || !takeNumber(0, TOP)) {
                return false;
            }
            int low = number;
            return takeWord(W_TO) && takeNumber(0, TOP) && where.keepBounds(i, low, number);
        }

        private boolean workLine() {
            if (!tape.isBetween(W_INSERT, W_PACK)) {
                return wrong(FAULT_PLACE);
            }
            int i = lines.told;
            if (i >= LINES) {
                return wrong(FAULT_MANY);
            }
            lines.word[i] = tape.value;
            tape.readOn();
            if (!workNumbers(i)) {
                return false;
            }
            lines.told++;
            return takeMark();
        }

        private boolean workNumbers(int i) {
            switch (lines.word[i]) {
                case W_INSERT:
                    return takeNumber(0, TOP) && lines.keep(i, 0, number)
                        && takeNumber(0, TOP) && lines.keep(i, 1, number)
                        && takeNumber(0, TOP) && lines.keep(i, 2, number);
                case W_REMOVE:
                    return takeNumber(0, ROWS - 1) && lines.keep(i, 0, number);
                case W_CHANGE:
                    return takeNumber(0, ROWS - 1) && lines.keep(i, 0, number)
                        && takeOneOf(W_A, W_C) && lines.keep(i, 1, number)
                        && takeNumber(0, TOP) && lines.keep(i, 2, number);
                case W_STEP:
                    return takeNumber(1, 99) && lines.keep(i, 0, number);
                case W_PACK:
                    return takeIndexName() && lines.keep(i, 0, number);
                default:
                    return true;
            }
        }

        private boolean takeIndexName() {
            if (!tape.isName()) {
                return wrong(FAULT_PLACE);
            }
            number = plan.named(tape.letters);
            if (number == NONE) {
                return wrong(FAULT_UNKNOWN);
            }
            tape.readOn();
            return true;
        }
    }

    /** A WHERE: its LIMITS one behind another, each telling whether a GROUP opens with it. */
    private static final class Where {
        final int[] kind = new int[LIMITS];
        final int[] column = new int[LIMITS];
        final int[] low = new int[LIMITS];
        final int[] high = new int[LIMITS];
        final boolean[] not = new boolean[LIMITS];
        final boolean[] opens = new boolean[LIMITS];
        int limits = 0;

        boolean keepColumn(int i, int number) {
            column[i] = number;
            return true;
        }

        boolean keepBounds(int i, int first, int second) {
            low[i] = first;
            high[i] = second;
            return true;
        }

        boolean holds(State state, int row) {
            boolean group = true;
            for (int i = 0; i < limits; i++) {
                if (opens[i] && i > 0) {
                    if (group) {
                        return true;
                    }
                    group = true;
                }
                group = group && isSo(i, state, row) != not[i];
            }
            return group;
        }

        private boolean isSo(int i, State state, int row) {
            int value = state.rows.valueOf(row, column[i]);
            switch (kind[i]) {
                case W_FROM:
                    return value >= low[i] && value <= high[i];
                case W_OVER:
                    return value > state.rows.valueOf(row, low[i]);
                case W_EVERY:
                    return low[i] > 0 && row % low[i] == 0;
                case W_TWIN:
                    return (state.rows.having(column[i], value) & ~(1 << row)) != 0;
                default:
                    return state.points.anyAt(state.rows.valueOf(row, 0));
            }
        }
    }

    /** The TABLE as told. */
    private static final class Plan {
        final int[] kind = new int[INDEXES];
        final int[] column = new int[INDEXES];
        final long[] name = new long[INDEXES];
        final int[] row = new int[ROWS_TOLD * COLUMNS];
        final int[] sort = new int[POINTERS_TOLD];
        final int[] target = new int[POINTERS_TOLD];
        final Where choose = new Where();
        final Where part = new Where();
        int page = 4;
        int batch = 2;
        int indexes = 0;
        int rows = 0;
        int points = 0;

        void clear() {
            page = 4;
            batch = 2;
            indexes = 0;
            rows = 0;
            points = 0;
            choose.limits = 0;
            part.limits = 0;
        }

        int named(long letters) {
            for (int i = 0; i < indexes; i++) {
                if (name[i] == letters) {
                    return i;
                }
            }
            return NONE;
        }

        boolean has(int inColumn, int value) {
            for (int r = 0; r < rows; r++) {
                if (row[r * COLUMNS + inColumn] == value) {
                    return true;
                }
            }
            return false;
        }

        boolean onceHas(int inColumn, int value) {
            for (int i = 0; i < indexes; i++) {
                if (kind[i] == KIND_ONCE && column[i] == inColumn) {
                    return has(inColumn, value);
                }
            }
            return false;
        }
    }

    /** The WORK. */
    private static final class Lines {
        static final int NUMBERS = 3;

        final int[] word = new int[LINES];
        final int[] number = new int[LINES * NUMBERS];
        int told = 0;

        boolean keep(int line, int i, int value) {
            number[line * NUMBERS + i] = value;
            return true;
        }

        /** Whether the line can be; what of it can be is done. */
        boolean play(int line, State state) {
            int first = number[line * NUMBERS];
            int second = number[line * NUMBERS + 1];
            int third = number[line * NUMBERS + 2];
            switch (word[line]) {
                case W_INSERT:
                    return state.admit(first, second, third) != NONE;
                case W_REMOVE:
                    return state.expel(first);
                case W_CHANGE:
                    return state.amend(first, second, third);
                case W_BEGIN:
                    return state.launch(NONE, 0, 0);
                case W_STEP:
                    return state.advanceBy(first) == first;
                case W_STOP:
                    return state.halt();
                case W_CRASH:
                    return state.fall() != NONE;
                case W_RESUME:
                    return state.rise();
                default:
                    return state.join(first) != NONE;
            }
        }
    }

    /** The values of the ROWS, and which of them are THERE and CHOSEN, as bits. */
    private static final class Rows {
        final int[] value = new int[ROWS * COLUMNS];
        int come = 0;
        int there = 0;
        int chosen = 0;

        void clear() {
            come = 0;
            there = 0;
            chosen = 0;
        }

        void become(Rows other) {
            System.arraycopy(other.value, 0, value, 0, ROWS * COLUMNS);
            come = other.come;
            there = other.there;
            chosen = other.chosen;
        }

        boolean hasCome(int row) {
            return row >= 0 && row < come && row < ROWS;
        }

        int visible() {
            return there & ~chosen;
        }

        boolean isVisible(int row) {
            return hasCome(row) && (visible() >> row & 1) != 0;
        }

        int valueOf(int row, int column) {
            if (row < 0 || row >= come || row >= ROWS || column < 0 || column >= COLUMNS) {
                return NONE;
            }
            return value[row * COLUMNS + column];
        }

        void setValue(int row, int column, int number) {
            if (hasCome(row) && column >= 0 && column < COLUMNS) {
                value[row * COLUMNS + column] = number;
            }
        }

        /** The VISIBLE ROWS with that value in that COLUMN. */
        int having(int column, int number) {
            int bits = 0;
            if (column < 0 || column >= COLUMNS) {
                return bits;
            }
            for (int r = 0; r < come && r < ROWS; r++) {
                if (value[r * COLUMNS + column] == number) {
                    bits |= 1 << r;
                }
            }
            return bits & there & ~chosen;
        }

        int add(int a, int b, int c) {
            int row = come;
            if (row >= ROWS) {
                return NONE;
            }
            come++;
            there |= 1 << row;
            setValue(row, 0, a);
            setValue(row, 1, b);
            setValue(row, 2, c);
            return row;
        }

        void takeBackLast() {
            if (come > 0) {
                come--;
                there &= ~(1 << come);
            }
        }
    }

    /** The POINTERS. */
    private static final class Points {
        final int[] sort = new int[POINTERS];
        final int[] target = new int[POINTERS];
        /** Where one that BEGIN changed pointed ahead of it, as long as STOP can bring that back; else NONE. */
        final int[] before = new int[POINTERS];
        int come = 0;

        void become(Points other) {
            System.arraycopy(other.sort, 0, sort, 0, POINTERS);
            System.arraycopy(other.target, 0, target, 0, POINTERS);
            System.arraycopy(other.before, 0, before, 0, POINTERS);
            come = other.come;
        }

        boolean hasCome(int pointer) {
            return pointer >= 0 && pointer < come && pointer < POINTERS;
        }

        int add(int kind, int value) {
            int pointer = come;
            if (pointer >= POINTERS) {
                return NONE;
            }
            come++;
            sort[pointer] = kind;
            target[pointer] = value;
            before[pointer] = NONE;
            return pointer;
        }

        boolean discard(int pointer) {
            if (!hasCome(pointer) || target[pointer] == GONE) {
                return false;
            }
            target[pointer] = GONE;
            before[pointer] = NONE;
            return true;
        }

        boolean anyAt(int value) {
            for (int p = 0; p < come; p++) {
                if (target[p] == value) {
                    return true;
                }
            }
            return false;
        }

        boolean firmAt(int value) {
            for (int p = 0; p < come; p++) {
                if (target[p] == value && sort[p] == SORT_FIRM) {
                    return true;
                }
            }
            return false;
        }

        boolean isFirm(int pointer) {
            return hasCome(pointer) && sort[pointer] == SORT_FIRM && target[pointer] >= 0;
        }

        int firmOnes() {
            int firm = 0;
            for (int p = 0; p < come; p++) {
                firm += isFirm(p) ? 1 : 0;
            }
            return firm;
        }

        /** The value has no VISIBLE ROW any more. */
        void loosen(int pointer) {
            if (!hasCome(pointer) || target[pointer] < 0) {
                return;
            }
            if (sort[pointer] == SORT_LOOSE) {
                target[pointer] = NONE;
            } else if (sort[pointer] == SORT_BOUND) {
                target[pointer] = GONE;
            }
        }

        void loosenAt(int value) {
            for (int p = 0; p < come; p++) {
                if (target[p] == value) {
                    loosen(p);
                }
            }
        }

        void forgetBefore() {
            for (int p = 0; p < come; p++) {
                before[p] = NONE;
            }
        }

        void bringBack() {
            for (int p = 0; p < come; p++) {
                if (before[p] != NONE) {
                    target[p] = before[p];
                }
            }
            forgetBefore();
        }
    }

    /**
     * The ENTRIES of an INDEX, cut into LEAVES. An ENTRY is one number that tells its value and its ROW,
     * made so that the numbers go upwards as the ENTRIES do by ORDER.
     */
    private static final class Leaves {
        static final int SHELF = 32;

        final int[] entry = new int[ROWS];
        final int[] size = new int[ROWS];
        int entries = 0;
        int leaves = 0;
        int page = 4;
        boolean down = false;

        void clear(int newPage, boolean newDown) {
            entries = 0;
            leaves = 0;
            page = newPage;
            down = newDown;
        }

        void become(Leaves other) {
            System.arraycopy(other.entry, 0, entry, 0, ROWS);
            System.arraycopy(other.size, 0, size, 0, ROWS);
            entries = other.entries;
            leaves = other.leaves;
            page = other.page;
            down = other.down;
        }

        int code(int value, int row) {
            return (down ? TOP - value : value) * SHELF + row;
        }

        int valueIn(int code) {
            return down ? TOP - code / SHELF : code / SHELF;
        }

        static int rowIn(int code) {
            return code & (SHELF - 1);
        }

        int height() {
            int high = 0;
            int wide = leaves;
            while (wide > 1 && page > 1 && high < ROWS) {
                wide = (wide + page - 1) / page;
                high++;
            }
            return high;
        }

        int rowBits() {
            int bits = 0;
            for (int i = 0; i < entries; i++) {
                bits |= 1 << (entry[i] & (SHELF - 1));
            }
            return bits;
        }

        boolean holdsCode(int code) {
            int at = placeOf(code);
            return at < entries && entry[at] == code;
        }

        /** How many ENTRIES are ahead of this one. */
        private int placeOf(int code) {
            int at = 0;
            while (at < entries && entry[at] < code) {
                at++;
            }
            return at;
        }

        private int leafFor(int code) {
            int best = 0;
            int first = 0;
            for (int k = 0; k < leaves; k++) {
                if (first < entries && entry[first] < code) {
                    best = k;
                }
                first += size[k];
            }
            return best;
        }

        boolean wouldSplit(int code) {
            return leaves > 0 && size[leafFor(code)] >= page;
        }

        void put(int code) {
            if (entries >= ROWS) {
                return;
            }
            if (leaves == 0) {
                leaves = 1;
                size[0] = 0;
            }
            int k = leafFor(code);
            int at = placeOf(code);
            for (int i = entries; i > at; i--) {
                entry[i] = entry[i - 1];
            }
            entry[at] = code;
            entries++;
            size[k]++;
            if (size[k] > page && leaves < ROWS) {
                cut(k);
            }
        }

        private void cut(int k) {
            int moved = (page + 1) / 2;
            for (int i = leaves; i > k + 1; i--) {
                size[i] = size[i - 1];
            }
            size[k + 1] = moved;
            size[k] -= moved;
            leaves++;
        }

        void take(int code) {
            int at = placeOf(code);
            if (at >= entries || entry[at] != code) {
                return;
            }
            int k = 0;
            int first = 0;
            while (k < leaves - 1 && first + size[k] <= at) {
                first += size[k];
                k++;
            }
            entries--;
            for (int i = at; i < entries; i++) {
                entry[i] = entry[i + 1];
            }
            size[k]--;
            if (size[k] == 0) {
                closeUp(k);
            }
        }

        private void closeUp(int k) {
            leaves--;
            for (int i = k; i < leaves; i++) {
                size[i] = size[i + 1];
            }
        }

        int takeTogether() {
            int ahead = leaves;
            int last = 0;
            for (int k = 1; k < ahead; k++) {
                if (size[last] + size[k] <= page) {
                    size[last] += size[k];
                } else {
                    last++;
                    size[last] = size[k];
                }
            }
            leaves = Math.min(ahead, last + 1);
            return ahead - leaves;
        }

        private int firstOf(int k) {
            int first = 0;
            for (int i = 0; i < k && i < leaves; i++) {
                first += size[i];
            }
            return first;
        }

        int rowAt(int k, int i) {
            if (k < 0 || k >= leaves || i < 0 || i >= size[k]) {
                return NONE;
            }
            return rowIn(entry[firstOf(k) + i]);
        }

        int underHalf() {
            int few = 0;
            for (int k = 0; k < leaves; k++) {
                few += 2 * size[k] < page ? 1 : 0;
            }
            return few;
        }

        int withValue(int value, int ofRows) {
            int many = 0;
            for (int i = 0; i < entries; i++) {
                if (valueIn(entry[i]) == value && (ofRows >> rowIn(entry[i]) & 1) != 0) {
                    many++;
                }
            }
            return many;
        }

        int leftIn(int k, int doomed) {
            if (k < 0 || k >= leaves) {
                return NONE;
            }
            int first = firstOf(k);
            int left = 0;
            for (int i = first; i < first + size[k] && i < entries; i++) {
                left += doomed >> rowIn(entry[i]) & 1;
            }
            return left;
        }

        int passCost(int doomed) {
            int first = NONE;
            int last = NONE;
            int having = 0;
            int leaf = 0;
            int behind = leaves > 0 ? size[0] : 0;
            for (int i = 0; i < entries; i++) {
                if (i >= behind && leaf + 1 < leaves) {
                    leaf++;
                    behind += size[leaf];
                }
                if ((doomed >> rowIn(entry[i]) & 1) != 0 && last != leaf) {
                    first = first == NONE ? leaf : first;
                    last = leaf;
                    having++;
                }
            }
            return having == 0 ? 0 : height() + (last - first + 1) + having;
        }

        int probeCost(int doomed) {
            return (height() + 2) * Integer.bitCount(rowBits() & doomed);
        }

        int wayFor(int doomed) {
            return passCost(doomed) <= probeCost(doomed) ? PASS : PROBING;
        }

        int costOf(int way, int doomed) {
            return way == PASS ? passCost(doomed) : probeCost(doomed);
        }

        /** The ROW of the i-th ENTRY that goes by that way. */
        int leftAt(int i, int doomed, int way) {
            int left = rowBits() & doomed;
            int seen = 0;
            int length = way == PASS ? entries : ROWS;
            for (int n = 0; n < length; n++) {
                int row = way == PASS ? rowIn(entry[n]) : n;
                if ((left >> row & 1) != 0) {
                    if (seen == i) {
                        return row;
                    }
                    seen++;
                }
            }
            return NONE;
        }

        /** The ENTRY of a ROW that has one; else NONE. */
        int codeWith(int row) {
            for (int i = 0; i < entries; i++) {
                if (rowIn(entry[i]) == row) {
                    return entry[i];
                }
            }
            return NONE;
        }
    }

    /** The JOB; which ROWS are CHOSEN stands with the ROWS. */
    private static final class Job {
        final int[] record = new int[RECORDS * RECORD_PARTS];
        final int[] side = new int[SIDES];
        final Leaves stand = new Leaves();
        boolean on = false;
        boolean down = false;
        int at = NONE;
        int way = NONE;
        int since = 0;
        int gone = 0;
        int records = 0;
        int sides = 0;

        void clear() {
            on = false;
            down = false;
            at = NONE;
            way = NONE;
            since = 0;
            gone = 0;
            records = 0;
            sides = 0;
        }

        void become(Job other) {
            System.arraycopy(other.record, 0, record, 0, RECORDS * RECORD_PARTS);
            System.arraycopy(other.side, 0, side, 0, SIDES);
            stand.become(other.stand);
            on = other.on;
            down = other.down;
            at = other.at;
            way = other.way;
            since = other.since;
            gone = other.gone;
            records = other.records;
            sides = other.sides;
        }

        boolean isAt(int index) {
            return on && at == index;
        }

        boolean isRunning() {
            return on && !down;
        }

        void lay(int number) {
            if (sides < SIDES) {
                side[sides] = number;
                sides++;
            }
        }

        void writeRecord(int spent) {
            if (records < RECORDS) {
                record[records * RECORD_PARTS] = at;
                record[records * RECORD_PARTS + 1] = gone;
                record[records * RECORD_PARTS + 2] = spent;
                records++;
            }
        }
    }

    /** All that can be undone: the ROWS, the POINTERS, the INDEXES, the JOB and what is SPENT. */
    private static final class State {
        final Rows rows = new Rows();
        final Points points = new Points();
        final Leaves[] trees = new Leaves[INDEXES];
        final Job job = new Job();
        /** The values of a ROW's ENTRY in each INDEX ahead of what is done and behind it; NONE: no ENTRY. */
        private final int[] was = new int[INDEXES];
        private final int[] willBe = new int[INDEXES];
        private Plan plan;
        int batch;
        int spent = 0;

        State(Plan told) {
            plan = told;
            batch = told.batch;
            for (int i = 0; i < INDEXES; i++) {
                trees[i] = new Leaves();
            }
        }

        void become(State other) {
            rows.become(other.rows);
            points.become(other.points);
            for (int i = 0; i < INDEXES; i++) {
                trees[i].become(other.trees[i]);
            }
            job.become(other.job);
            plan = other.plan;
            batch = other.batch;
            spent = other.spent;
        }

        void becomeRisen(State other) {
            become(other);
            rise();
        }

        void startFrom(Plan told) {
            plan = told;
            batch = told.batch;
            rows.clear();
            points.come = 0;
            job.clear();
            for (int i = 0; i < INDEXES; i++) {
                trees[i].clear(told.page, told.kind[i] == KIND_DOWN);
            }
            for (int r = 0; r < told.rows; r++) {
                seat(told.row[r * COLUMNS], told.row[r * COLUMNS + 1], told.row[r * COLUMNS + 2]);
            }
            for (int p = 0; p < told.points; p++) {
                points.add(told.sort[p], told.target[p]);
            }
            spent = 0;
        }

        /** A ROW told comes, at no cost. */
        private void seat(int a, int b, int c) {
            int row = rows.add(a, b, c);
            entriesOf(row, plan.part.holds(this, row), willBe);
            for (int i = 0; i < plan.indexes; i++) {
                if (row != NONE && willBe[i] != NONE) {
                    trees[i].put(trees[i].code(willBe[i], row));
                }
            }
        }

        // ---- what is so

        boolean belongs(int index, int row) {
            return plan.kind[index] != KIND_PARTIAL || plan.part.holds(this, row);
        }

        /** The ENTRY of a ROW as it is now, whether the INDEX has it or not. */
        int codeOf(int index, int row) {
            return trees[index].code(rows.valueOf(row, plan.column[index]), row);
        }

        /** The VISIBLE ROWS that BELONG to an INDEX. */
        int readable(int index) {
            int bits = 0;
            for (int r = 0; r < rows.come; r++) {
                if (rows.isVisible(r) && belongs(index, r)) {
                    bits |= 1 << r;
                }
            }
            return bits;
        }

        int treesHolding(int row) {
            int bits = 0;
            for (int i = 0; i < plan.indexes; i++) {
                bits |= (trees[i].rowBits() >> row & 1) << i;
            }
            return bits;
        }

        int staleRows(int index) {
            Leaves tree = trees[index];
            int bits = 0;
            for (int i = 0; i < tree.entries; i++) {
                int row = Leaves.rowIn(tree.entry[i]);
                boolean there = (rows.there >> row & 1) != 0;
                if (!there || codeOf(index, row) != tree.entry[i] || !belongs(index, row)) {
                    bits |= 1 << row;
                }
            }
            return bits;
        }

        int missingRows(int index) {
            int readable = readable(index);
            int bits = 0;
            for (int r = 0; r < rows.come; r++) {
                if ((readable >> r & 1) != 0 && !trees[index].holdsCode(codeOf(index, r))) {
                    bits |= 1 << r;
                }
            }
            return bits;
        }

        int leavesOfAll() {
            int all = 0;
            for (int i = 0; i < plan.indexes; i++) {
                all += trees[i].leaves;
            }
            return all;
        }

        /** The VISIBLE ROWS that BEGIN would choose, of all (index NONE) or of an INDEX and its bounds. */
        int eligible(int index, int low, int high) {
            int among = rows.visible();
            if (index != NONE) {
                among &= trees[index].rowBits();
            }
            int bits = 0;
            for (int r = 0; r < rows.come; r++) {
                if ((among >> r & 1) == 0) {
                    continue;
                }
                int value = index == NONE ? low : rows.valueOf(r, plan.column[index]);
                boolean inBounds = index == NONE || value >= low && value <= high;
                if (inBounds && plan.choose.holds(this, r)) {
                    bits |= 1 << r;
                }
            }
            return bits;
        }

        /** The ROWS of which the ENTRIES are LEFT, wherever they have one. */
        int doomed() {
            return job.on ? rows.chosen : eligible(NONE, 0, 0);
        }

        int leftOf(int index) {
            return trees[index].rowBits() & doomed();
        }

        int leftWhereAt() {
            boolean isAtOne = job.on && job.at < plan.indexes;
            return isAtOne ? Integer.bitCount(trees[job.at].rowBits() & rows.chosen) : 0;
        }

        /** The firm POINTERS at values that only ROWS of these have. */
        int hindering(int among) {
            int bits = 0;
            for (int p = 0; p < points.come; p++) {
                if (points.isFirm(p)) {
                    int having = rows.having(0, points.target[p]);
                    if ((having & among) != 0 && (having & ~among) == 0) {
                        bits |= 1 << p;
                    }
                }
            }
            return bits;
        }

        /** The once INDEXES on that COLUMN that have the value in a VISIBLE ROW. */
        int onceClashes(int column, int value) {
            int bits = 0;
            for (int i = 0; i < plan.indexes; i++) {
                if (isOnceOn(i, column) && rows.having(column, value) != 0) {
                    bits |= 1 << i;
                }
            }
            return bits;
        }

        private boolean isOnceOn(int index, int column) {
            return plan.kind[index] == KIND_ONCE && plan.column[index] == column;
        }

        int singlyCost() {
            for (int i = 0; i < plan.indexes; i++) {
                if (plan.column[i] == 0 && plan.kind[i] != KIND_PARTIAL) {
                    return (trees[i].height() + 1) * points.firmOnes();
                }
            }
            return Integer.bitCount(doomed()) * points.firmOnes();
        }

        // ---- INSERT, REMOVE, CHANGE

        int admit(int a, int b, int c) {
            if (!areValues(a, b, c) || rows.come >= ROWS) {
                return NONE;
            }
            if ((onceClashes(0, a) | onceClashes(1, b) | onceClashes(2, c)) != 0) {
                return NONE;
            }
            int row = rows.add(a, b, c);
            noEntries(was);
            entriesOf(row, plan.part.holds(this, row), willBe);
            if (!fitAside()) {
                rows.takeBackLast();
                return NONE;
            }
            moveEntries(row);
            return row;
        }

        boolean canExpel(int row) {
            if (!rows.isVisible(row)) {
                return false;
            }
            if (isAlone(row, 0) && points.firmAt(rows.valueOf(row, 0))) {
                return false;
            }
            entriesOf(row, plan.part.holds(this, row), was);
            noEntries(willBe);
            return fitAside();
        }

        boolean expel(int row) {
            if (!canExpel(row)) {
                return false;
            }
            if (isAlone(row, 0)) {
                points.loosenAt(rows.valueOf(row, 0));
            }
            rows.there &= ~(1 << row);
            moveEntries(row);
            return true;
        }

        boolean amend(int row, int column, int value) {
            if (!rows.isVisible(row) || column < 0 || column >= COLUMNS || !isValue(value)) {
                return false;
            }
            int old = rows.valueOf(row, column);
            if (old != value && (onceClashes(column, value) != 0 || isHeld(row, column))) {
                return false;
            }
            entriesOf(row, plan.part.holds(this, row), was);
            rows.setValue(row, column, value);
            entriesOf(row, plan.part.holds(this, row), willBe);
            if (!fitAside()) {
                rows.setValue(row, column, old);
                return false;
            }
            moveEntries(row);
            return true;
        }

        /** No other VISIBLE ROW has its value in that COLUMN. */
        private boolean isAlone(int row, int column) {
            return (rows.having(column, rows.valueOf(row, column)) & ~(1 << row)) == 0;
        }

        private boolean isHeld(int row, int column) {
            return column == 0 && isAlone(row, 0) && points.anyAt(rows.valueOf(row, 0));
        }

        private void noEntries(int[] values) {
            for (int i = 0; i < INDEXES; i++) {
                values[i] = NONE;
            }
        }

        private void entriesOf(int row, boolean inPart, int[] values) {
            noEntries(values);
            for (int i = 0; i < plan.indexes; i++) {
                if (inPart || plan.kind[i] != KIND_PARTIAL) {
                    values[i] = rows.valueOf(row, plan.column[i]);
                }
            }
        }

        /** Whether the SIDE list has room for what the move from was to willBe would lay on it. */
        private boolean fitAside() {
            if (!job.on || job.at >= plan.indexes) {
                return true;
            }
            int more = 0;
            if (was[job.at] != willBe[job.at]) {
                more += was[job.at] == NONE ? 0 : 1;
                more += willBe[job.at] == NONE ? 0 : 1;
            }
            return job.sides + more <= SIDES;
        }

        private void moveEntries(int row) {
            for (int i = 0; i < plan.indexes; i++) {
                if (was[i] != willBe[i]) {
                    takeEntry(i, row, was[i]);
                    putEntry(i, row, willBe[i]);
                }
            }
        }

        private void takeEntry(int index, int row, int value) {
            if (value == NONE) {
                return;
            }
            if (job.isAt(index)) {
                job.lay(SIDE_ROW * row + value - SIDE_TAKEN);
                spent++;
                return;
            }
            spent += trees[index].height() + 2;
            trees[index].take(trees[index].code(value, row));
        }

        private void putEntry(int index, int row, int value) {
            if (value == NONE) {
                return;
            }
            if (job.isAt(index)) {
                job.lay(SIDE_ROW * row + value);
                spent++;
                return;
            }
            spent += trees[index].height() + 2;
            trees[index].put(trees[index].code(value, row));
        }

        // ---- POINT

        int aim(int sort, int value) {
            if (sort < SORT_FIRM || sort > SORT_BOUND || !isValue(value) || rows.having(0, value) == 0) {
                return NONE;
            }
            return points.add(sort, value);
        }

        // ---- the JOB

        boolean launch(int index, int low, int high) {
            if (job.on) {
                return false;
            }
            int wanted = eligible(index, low, high);
            if (wanted == 0 || hindering(wanted) != 0) {
                return false;
            }
            job.clear();
            job.on = true;
            rows.chosen = wanted;
            loosenForJob();
            comeTo(0);
            return true;
        }

        private void loosenForJob() {
            points.forgetBefore();
            for (int p = 0; p < points.come; p++) {
                int value = points.target[p];
                if (value >= 0 && rows.having(0, value) == 0) {
                    points.before[p] = value;
                    points.loosen(p);
                }
            }
        }

        private void comeTo(int from) {
            job.at = BEHIND;
            job.way = NONE;
            job.gone = 0;
            for (int i = from; i < plan.indexes; i++) {
                Leaves tree = trees[i];
                if ((tree.rowBits() & rows.chosen) != 0) {
                    int pass = tree.passCost(rows.chosen);
                    int probing = tree.probeCost(rows.chosen);
                    job.at = i;
                    job.way = pass <= probing ? PASS : PROBING;
                    spent += Math.min(pass, probing);
                    job.stand.become(tree);
                    return;
                }
            }
        }

        int advance() {
            if (!job.isRunning()) {
                return NONE;
            }
            if (job.at >= plan.indexes) {
                rows.there &= ~rows.chosen;
                endJob();
                return OVER;
            }
            Leaves tree = trees[job.at];
            int row = tree.leftAt(0, rows.chosen, job.way);
            tree.take(tree.codeWith(row));
            job.since++;
            job.gone++;
            boolean last = (tree.rowBits() & rows.chosen) == 0;
            if (last || job.since >= batch) {
                spent++;
                job.since = 0;
                job.writeRecord(spent);
                job.stand.become(tree);
            }
            if (last) {
                carryOut();
                comeTo(job.at + 1);
            }
            return row;
        }

        /** So many STEPS as far as can be: how many there were. */
        int advanceBy(int steps) {
            for (int done = 0; done < steps; done++) {
                if (advance() == NONE) {
                    return done;
                }
            }
            return steps;
        }

        private void endJob() {
            rows.chosen = 0;
            job.clear();
            points.forgetBefore();
        }

        private void carryOut() {
            if (job.at < plan.indexes) {
                Leaves tree = trees[job.at];
                for (int i = 0; i < job.sides; i++) {
                    int number = job.side[i];
                    boolean taken = number < 0;
                    int told = taken ? number + SIDE_TAKEN : number;
                    int code = tree.code(told % SIDE_ROW, told / SIDE_ROW);
                    spent += tree.height() + 2;
                    if (taken) {
                        tree.take(code);
                    } else {
                        tree.put(code);
                    }
                }
            }
            job.sides = 0;
        }

        boolean halt() {
            if (!job.isRunning() || job.records > 0 || job.since > 0 || wouldDouble()) {
                return false;
            }
            carryOut();
            points.bringBack();
            endJob();
            return true;
        }

        /** Whether a once INDEX would have a value twice, were the CHOSEN ROWS VISIBLE again. */
        private boolean wouldDouble() {
            for (int i = 0; i < plan.indexes; i++) {
                int column = plan.column[i];
                for (int r = 0; r < rows.come && plan.kind[i] == KIND_ONCE; r++) {
                    boolean chosen = (rows.chosen >> r & 1) != 0;
                    if (chosen && rows.having(column, rows.valueOf(r, column)) != 0) {
                        return true;
                    }
                }
            }
            return false;
        }

        int fall() {
            if (!job.isRunning()) {
                return NONE;
            }
            int lost = job.since;
            if (job.at < plan.indexes) {
                trees[job.at].become(job.stand);
            }
            job.gone -= lost;
            job.since = 0;
            job.down = true;
            return lost;
        }

        boolean rise() {
            if (!job.on || !job.down) {
                return false;
            }
            job.down = false;
            if (job.at < plan.indexes) {
                spent += trees[job.at].costOf(job.way, rows.chosen);
            }
            return true;
        }

        int join(int index) {
            if (index < 0 || index >= plan.indexes || job.isAt(index)) {
                return NONE;
            }
            spent += trees[index].leaves;
            return trees[index].takeTogether();
        }
    }

    /** Room to sort in. */
    private static final class Bench {
        final int[] coming = new int[ROWS];
        final int[] memory = new int[MEMORY];
        final int[] length = new int[ROWS];
        private final int[] left = new int[ROWS];
        private final int[] right = new int[ROWS];
        int runs = 0;

        void sort(Leaves tree, int doomed, int room) {
            int many = gather(tree, doomed);
            int held = Math.min(room, many);
            for (int i = 0; i < held; i++) {
                memory[i] = coming[i];
            }
            int next = held;
            int last = NONE;
            runs = 0;
            for (int out = 0; out < many && held > 0; out++) {
                int best = runs == 0 ? NONE : firstBehind(last, held);
                if (best == NONE) {
                    length[runs] = 0;
                    runs++;
                    best = Math.max(0, firstBehind(NONE, held));
                }
                length[runs - 1]++;
                last = memory[best];
                if (next < many) {
                    memory[best] = coming[next];
                    next++;
                } else {
                    held--;
                    memory[best] = memory[held];
                }
            }
        }

        private int gather(Leaves tree, int doomed) {
            int many = 0;
            for (int r = 0; r < ROWS; r++) {
                int code = (doomed >> r & 1) != 0 ? tree.codeWith(r) : NONE;
                if (code != NONE) {
                    coming[many] = code;
                    many++;
                }
            }
            return many;
        }

        /** Where in the memory the first one behind an ENTRY stands. */
        private int firstBehind(int code, int held) {
            int best = NONE;
            for (int i = 0; i < held; i++) {
                if (memory[i] > code && (best == NONE || memory[i] < memory[best])) {
                    best = i;
                }
            }
            return best;
        }

        /** The two shortest are always made one: no other way costs less. */
        int mergeCost() {
            int cost = 0;
            System.arraycopy(length, 0, left, 0, ROWS);
            for (int many = runs; many > 1; many--) {
                sortUpwards(left, many);
                left[0] += left[1];
                cost += left[0];
                left[1] = left[many - 1];
            }
            return cost;
        }

        private static void sortUpwards(int[] values, int many) {
            for (int i = 1; i < many; i++) {
                int value = values[i];
                int at = i;
                while (at > 0 && values[at - 1] > value) {
                    values[at] = values[at - 1];
                    at--;
                }
                values[at] = value;
            }
        }

        /** How many comparisons it takes to look at the firm POINTERS and the ROWS that go side by side. */
        int comparisons(State state, int doomed) {
            int pointers = 0;
            for (int p = 0; p < state.points.come; p++) {
                if (state.points.isFirm(p)) {
                    left[pointers] = state.points.target[p];
                    pointers++;
                }
            }
            int rows = 0;
            for (int r = 0; r < state.rows.come; r++) {
                if ((doomed >> r & 1) != 0) {
                    right[rows] = state.rows.valueOf(r, 0);
                    rows++;
                }
            }
            sortUpwards(left, pointers);
            sortUpwards(right, rows);
            int i = 0;
            int k = 0;
            while (i < pointers && k < rows) {
                if (left[i] <= right[k]) {
                    i++;
                } else {
                    k++;
                }
            }
            return i + k;
        }
    }
}
