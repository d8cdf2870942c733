import java.util.Arrays;

/**
 * An optimiser of a small language of blocks.
 *
 * Blocks are told line by line, brought into a FORM in which each VALUE is made at one place, and
 * passes go over that FORM; both can be run. Words in capitals are those of the document.
 *
 * All rows are made once, with the object, and used again: no call makes an object.
 */
public final class PhiHall {
    private static final int NONE = -1;

    private static final int MOST_BLOCKS = 10;
    private static final int MOST_LINES = 8;
    private static final int VARIABLES = 6;
    private static final int CELLS = 8;
    private static final int HIGHEST_NUMBER = 99;
    private static final int FIRST_VARIABLE = 100;

    /** An END has at most two ways on: that of a JUMP, or of an IF above 0, and the other one of an IF. */
    private static final int WAYS = 2;
    private static final int MOST_WAYS = MOST_BLOCKS * WAYS;

    /** What the VARIABLES begin with, the LINES, and PHIS in all BLOCKS but the BLOCK 0. */
    private static final int MOST_VALUES = VARIABLES + MOST_BLOCKS * MOST_LINES + (MOST_BLOCKS - 1) * VARIABLES;

    /** Users of ARGUMENTS are the VALUES, and behind them the ENDS. */
    private static final int FIRST_END = MOST_VALUES;
    private static final int MOST_USERS = MOST_VALUES + MOST_BLOCKS;

    /** Two of each LINE, one of each END, and, as there are at most as many EDGES as ways, one of each PHI for these. */
    private static final int MOST_ARGUMENTS = 2 * MOST_BLOCKS * MOST_LINES + MOST_BLOCKS + MOST_WAYS * VARIABLES;

    private static final int PUT = 0;
    private static final int ADD = 1;
    private static final int SUB = 2;
    private static final int MUL = 3;
    private static final int DIV = 4;
    private static final int LESS = 5;
    private static final int LOAD = 6;
    private static final int STORE = 7;
    private static final int PRINT = 8;
    private static final int PHI = 9;
    private static final int BEGUN = 10;

    /** The KINDS of ENDS: each has as many ways on as its number says. */
    private static final int RETURN = 0;
    private static final int JUMP = 1;
    private static final int IF = 2;

    private static final int RETURNED = 0;
    private static final int TRAPPED = 1;
    private static final int CUT = 2;

    private static final int MOST_ENDS = 300;
    private static final int KEPT = 60;
    private static final int MOST_PRINTED = (MOST_ENDS + 1) * MOST_LINES;

    private static final int CONSTANTS_PASS = 1;
    private static final int NUMBERS_PASS = 2;
    private static final int DEAD_PASS = 3;
    private static final int JOIN_PASS = 4;
    private static final int PASSES = 4;
    private static final int MOST_ROUNDS = 5;
    private static final int MOST_TRIED = 40;

    private static final long DIGEST_START = 7605;
    private static final int DIGEST_A = 3;
    private static final int DIGEST_B = -2;

    private final Told told;
    private final Form made;
    private final Form trial;
    private final Maker maker;
    private final Constants constants;
    private final Numbers numbers;
    private final Dead dead;
    private final Joiner joiner;
    private final Runner runner;
    private final Tape latest;
    private final Tape trialOfBlocks;
    private final Tape trialOfForm;
    private boolean isMade;
    private int runs;
    private long costs;

    public PhiHall() {
        told = new Told();
        made = new Form();
        trial = new Form();
        maker = new Maker();
        constants = new Constants();
        numbers = new Numbers();
        dead = new Dead();
        joiner = new Joiner();
        runner = new Runner();
        latest = new Tape(KEPT);
        trialOfBlocks = new Tape(MOST_PRINTED);
        trialOfForm = new Tape(MOST_PRINTED);
    }

    // ---- blocks

    public int block() throws IllegalStateException {
        if (told.blocks >= MOST_BLOCKS) {
            throw new IllegalStateException("there are 10 BLOCKS");
        }
        return told.addBlock();
    }

    public int line(int block, int kind, int d, int p, int q) throws IndexOutOfBoundsException, IllegalArgumentException, IllegalStateException {
        if (!isTold(block)) {
            throw new IndexOutOfBoundsException("no such BLOCK");
        }
        if (!isLine(kind, d, p, q)) {
            throw new IllegalArgumentException("no such LINE");
        }
        if (told.lines.at(block) >= MOST_LINES) {
            throw new IllegalStateException("there are 8 LINES");
        }
        return told.addLine(block, kind, d, p, q);
    }

    public int cut(int block) throws IndexOutOfBoundsException, IllegalStateException {
        if (!isTold(block)) {
            throw new IndexOutOfBoundsException("no such BLOCK");
        }
        if (told.lines.at(block) == 0) {
            throw new IllegalStateException("there is no LINE");
        }
        return told.cutLine(block);
    }

    public int end(int block, int kind, int p, int to, int other) throws IndexOutOfBoundsException, IllegalArgumentException {
        if (!isTold(block)) {
            throw new IndexOutOfBoundsException("no such BLOCK");
        }
        if (!isEnd(kind, p, to, other)) {
            throw new IllegalArgumentException("no such END");
        }
        return told.putEnd(block, kind, p, to, other);
    }

    public int ofBlock(int block, int what) throws IndexOutOfBoundsException, IllegalArgumentException {
        if (!isTold(block)) {
            throw new IndexOutOfBoundsException("no such BLOCK");
        }
        boolean isReached = has(told.flow.reached, block);
        switch (what) {
            case 0:
                return told.lines.at(block);
            case 1:
                return told.endKinds.at(block);
            case 2:
                return isReached ? 1 : 0;
            case 3:
                return isReached ? told.flow.dominated.at(block) : 0;
            case 4:
                return isReached ? told.flow.frontier(block) : 0;
            case 5:
                return isReached ? told.wanted.at(block) : 0;
            default:
                throw new IllegalArgumentException("what is not 0 to 5");
        }
    }

    // ---- the form

    public int form() {
        maker.make(told, made);
        isMade = true;
        return made.values;
    }

    public int pass(int pass) throws IllegalArgumentException, IllegalStateException {
        if (!isPass(pass)) {
            throw new IllegalArgumentException("pass is not 1 to 4");
        }
        if (!isMade) {
            throw new IllegalStateException("there is no FORM");
        }
        return passOver(made, pass);
    }

    public int ofPlace(int block, int what) throws IndexOutOfBoundsException, IllegalArgumentException {
        if (!isMade || block < 0 || block >= made.blocks) {
            throw new IndexOutOfBoundsException("no such BLOCK of a FORM");
        }
        boolean isThere = has(made.there, block);
        switch (what) {
            case 0:
                return isThere ? 1 : 0;
            case 1:
                return isThere ? made.sizes.at(block) : 0;
            case 2:
                return isThere ? made.endKinds.at(block) : 0;
            case 3:
                return isThere ? made.targets.at(block * WAYS) : 0;
            case 4:
                return isThere ? made.targets.at(block * WAYS + 1) : 0;
            case 5:
                return isThere ? made.edges.at(block) : 0;
            case 6:
                return isThere ? made.valueOf(FIRST_END + block, 0) : 0;
            case 7:
                return isThere ? made.numberOf(FIRST_END + block, 0) : 0;
            default:
                throw new IllegalArgumentException("what is not 0 to 7");
        }
    }

    public int valueAt(int block, int k) throws IndexOutOfBoundsException {
        if (!isMade || !has(made.there, block) || k < 0 || k >= made.sizes.at(block)) {
            throw new IndexOutOfBoundsException("no such place");
        }
        return made.valueIn(block, k);
    }

    public int edge(int block, int k) throws IndexOutOfBoundsException {
        if (!isMade || !has(made.there, block) || k < 0 || k >= made.edges.at(block)) {
            throw new IndexOutOfBoundsException("no such EDGE");
        }
        return fromOf(made.wayTo(block, k));
    }

    public int ofValue(int value, int what) throws IndexOutOfBoundsException, IllegalArgumentException {
        if (!isValue(value)) {
            throw new IndexOutOfBoundsException("no such VALUE");
        }
        switch (what) {
            case 0:
                return made.kinds.at(value);
            case 1:
                return made.places.at(value);
            case 2:
                return made.variables.at(value);
            case 3:
                return made.arguments.at(value);
            case 4:
                return made.usesOf(value);
            default:
                throw new IllegalArgumentException("what is not 0 to 4");
        }
    }

    public int argument(int value, int k) throws IndexOutOfBoundsException {
        if (!isArgument(value, k)) {
            throw new IndexOutOfBoundsException("no such ARGUMENT");
        }
        return made.valueOf(value, k);
    }

    public int number(int value, int k) throws IndexOutOfBoundsException {
        if (!isArgument(value, k)) {
            throw new IndexOutOfBoundsException("no such ARGUMENT");
        }
        return made.numberOf(value, k);
    }

    // ---- runs

    public int run(int a, int b) {
        runner.walkBlocks(told, a, b, latest);
        countRun();
        return latest.ended;
    }

    public int runForm(int a, int b) throws IllegalStateException {
        if (!isMade) {
            throw new IllegalStateException("there is no FORM");
        }
        runner.walkForm(made, a, b, latest);
        countRun();
        return latest.ended;
    }

    public int ofRun(int what) throws IllegalArgumentException {
        switch (what) {
            case 0:
                return latest.ended;
            case 1:
                return latest.returned;
            case 2:
                return latest.count;
            case 3:
                return latest.cost;
            case 4:
                return latest.ends;
            case 5:
                return runs;
            default:
                throw new IllegalArgumentException("what is not 0 to 5");
        }
    }

    public int printed(int k) throws IndexOutOfBoundsException {
        if (k < 0 || k >= latest.count || k >= KEPT) {
            throw new IndexOutOfBoundsException("no such number is kept");
        }
        return latest.kept.at(k);
    }

    public int cell(int cell) throws IndexOutOfBoundsException {
        if (cell < 0 || cell >= CELLS) {
            throw new IndexOutOfBoundsException("no such CELL");
        }
        return latest.cells.at(cell);
    }

    public int many(int what) throws IllegalArgumentException {
        if (what < 0 || what > 10) {
            throw new IllegalArgumentException("what is not 0 to 10");
        }
        switch (what) {
            case 0:
                return told.blocks;
            case 1:
                return Integer.bitCount(told.flow.reached);
            case 2:
                return told.allLines();
            case 3:
                return isMade ? 1 : 0;
            default:
                return isMade ? manyOfForm(what) : 0;
        }
    }

    public double meanCost() {
        return runs == 0 ? 0 : (double) costs / runs;
    }

    // ---- what would be

    public int wouldGo(int pass) throws IllegalArgumentException, IllegalStateException {
        if (!isPass(pass)) {
            throw new IllegalArgumentException("pass is not 1 to 4");
        }
        if (!isMade) {
            throw new IllegalStateException("there is no FORM");
        }
        trial.take(made);
        return passOver(trial, pass);
    }

    public int wouldCost(int passes, int a, int b) throws IllegalArgumentException, IllegalStateException {
        if (passes < 0 || passes > MOST_ROUNDS) {
            throw new IllegalArgumentException("passes is not 0 to 5");
        }
        if (!isMade) {
            throw new IllegalStateException("there is no FORM");
        }
        trial.take(made);
        for (int done = 0; done < passes * PASSES; done++) {
            passOver(trial, passBehind(done));
        }
        runner.walkForm(trial, a, b, trialOfForm);
        return trialOfForm.cost;
    }

    public int untilStill() throws IllegalStateException {
        if (!isMade) {
            throw new IllegalStateException("there is no FORM");
        }
        trial.take(made);
        int still = 0;
        int done = 0;
        while (done < MOST_TRIED && still < PASSES) {
            still = passOver(trial, passBehind(done)) == 0 ? still + 1 : 0;
            done++;
        }
        return done;
    }

    public boolean isAlike(int a, int b) throws IllegalStateException {
        if (!isMade) {
            throw new IllegalStateException("there is no FORM");
        }
        runner.walkBlocks(told, a, b, trialOfBlocks);
        runner.walkForm(made, a, b, trialOfForm);
        return trialOfBlocks.isLike(trialOfForm);
    }

    public long digest() {
        long d = DIGEST_START;
        for (int what = 0; what <= 10; what++) {
            d = mixed(d, many(what));
        }
        d = mixedWithBlocks(d);
        d = mixedWithRun(d);
        if (!isMade) {
            return d;
        }
        for (int block = 0; block < made.blocks; block++) {
            d = mixedWithPlace(d, block);
        }
        for (int value = 0; value < made.values; value++) {
            d = mixedWithValue(d, value);
        }
        for (int pass = 1; pass <= PASSES; pass++) {
            d = mixed(d, wouldGo(pass));
        }
        d = mixed(d, wouldCost(0, DIGEST_A, DIGEST_B));
        return mixed(d, wouldCost(2, DIGEST_A, DIGEST_B));
    }

    // ---- parts of the above

    private boolean isTold(int block) {
        return block >= 0 && block < told.blocks;
    }

    private boolean isTarget(int block) {
        return block > 0 && block < told.blocks;
    }

    private static boolean isOperand(int operand) {
        return operand >= -HIGHEST_NUMBER && operand < FIRST_VARIABLE + VARIABLES;
    }

    private static boolean isLine(int kind, int d, int p, int q) {
        if (kind < PUT || kind > PRINT || !isOperand(p)) {
            return false;
        }
        boolean isVariable = d >= 0 && d < VARIABLES;
        boolean hasSecond = isReckoning(kind) || kind == STORE;
        return (sets(kind) ? isVariable : d == 0) && (hasSecond ? isOperand(q) : q == 0);
    }

    private boolean isEnd(int kind, int p, int to, int other) {
        switch (kind) {
            case RETURN:
                return isOperand(p) && to == 0 && other == 0;
            case JUMP:
                return p == 0 && isTarget(to) && other == 0;
            case IF:
                return isOperand(p) && isTarget(to) && isTarget(other);
            default:
                return false;
        }
    }

    private static boolean isPass(int pass) {
        return pass >= 1 && pass <= PASSES;
    }

    private boolean isValue(int value) {
        return isMade && value >= 0 && value < made.values;
    }

    private boolean isArgument(int value, int k) {
        return isValue(value) && k >= 0 && k < made.arguments.at(value);
    }

    private void countRun() {
        runs++;
        costs += latest.cost;
    }

    private int manyOfForm(int what) {
        switch (what) {
            case 4:
                return made.values;
            case 5:
                return made.allIn(made.sizes);
            case 6:
                return made.allPhis();
            case 7:
                return Integer.bitCount(made.there);
            case 8:
                return made.allIn(made.edges);
            case 9:
                return made.passes;
            default:
                return made.gone;
        }
    }

    private static int passBehind(int done) {
        return 1 + done % PASSES;
    }

    private int passOver(Form form, int pass) {
        int before = form.gone;
        switch (pass) {
            case CONSTANTS_PASS:
                constants.goOver(form);
                break;
            case NUMBERS_PASS:
                numbers.goOver(form);
                break;
            case DEAD_PASS:
                dead.goOver(form);
                break;
            case JOIN_PASS:
                joiner.goOver(form);
                break;
            default:
                break;
        }
        form.sweep();
        form.passes++;
        return form.gone - before;
    }

    private static long mixed(long d, long number) {
        return d * 31 + number;
    }

    private long mixedWithBlocks(long before) {
        long d = before;
        for (int block = 0; block < told.blocks; block++) {
            for (int what = 0; what <= 5; what++) {
                d = mixed(d, ofBlock(block, what));
            }
        }
        return d;
    }

    private long mixedWithRun(long before) {
        long d = before;
        for (int what = 0; what <= 5; what++) {
            d = mixed(d, ofRun(what));
        }
        for (int k = 0; k < KEPT && k < latest.count; k++) {
            d = mixed(d, printed(k));
        }
        for (int cell = 0; cell < CELLS; cell++) {
            d = mixed(d, cell(cell));
        }
        return d;
    }

    private long mixedWithPlace(long before, int block) {
        long d = before;
        for (int what = 0; what <= 7; what++) {
            d = mixed(d, ofPlace(block, what));
        }
        if (!has(made.there, block)) {
            return d;
        }
        for (int k = 0; k < made.edges.at(block); k++) {
            d = mixed(d, edge(block, k));
        }
        for (int k = 0; k < made.sizes.at(block); k++) {
            d = mixed(d, valueAt(block, k));
        }
        return d;
    }

    private long mixedWithValue(long before, int value) {
        long d = before;
        for (int what = 0; what <= 4; what++) {
            d = mixed(d, ofValue(value, what));
        }
        for (int k = 0; k < made.arguments.at(value); k++) {
            d = mixed(d, argument(value, k));
            d = mixed(d, number(value, k));
        }
        return d;
    }

    // ---- sets, KINDS and ways

    private static int bit(int k) {
        return k >= 0 && k < MOST_WAYS ? 1 << k : 0;
    }

    private static boolean has(int set, int k) {
        return k >= 0 && k < MOST_WAYS && (set >> k & 1) == 1;
    }

    private static boolean sets(int kind) {
        return kind >= PUT && kind <= LOAD;
    }

    private static boolean isReckoning(int kind) {
        return kind >= ADD && kind <= LESS;
    }

    /** The VARIABLE that an OPERAND is; NONE, if it is a number. */
    private static int variableOf(int operand) {
        return operand >= FIRST_VARIABLE ? operand - FIRST_VARIABLE : NONE;
    }

    /** The BLOCK from whose END a way goes on. */
    private static int fromOf(int way) {
        return way < 0 ? NONE : way / WAYS;
    }

    /** A DIV by 0 is a TRAP: who asks tests for that first. */
    private static int reckoned(int kind, int p, int q) {
        switch (kind) {
            case ADD:
                return p + q;
            case SUB:
                return p - q;
            case MUL:
                return p * q;
            case DIV:
                return q == 0 ? 0 : p / q;
            case LESS:
                return p < q ? 1 : 0;
            default:
                return 0;
        }
    }

    private static int costOf(int kind) {
        switch (kind) {
            case ADD:
            case SUB:
            case LESS:
            case PRINT:
                return 1;
            case MUL:
                return 3;
            case LOAD:
            case STORE:
                return 4;
            case DIV:
                return 8;
            default:
                return 0;
        }
    }

    /** A row of numbers that tests each index: outside of it there is 0, and nothing is kept. */
    private static final class Row {
        private final int[] numbers;

        Row(int length) {
            numbers = new int[length < 0 ? 0 : length];
        }

        int at(int k) {
            return k >= 0 && k < numbers.length ? numbers[k] : 0;
        }

        void put(int k, int number) {
            if (k >= 0 && k < numbers.length) {
                numbers[k] = number;
            }
        }

        void fill(int number) {
            Arrays.fill(numbers, number);
        }

        void take(Row other) {
            System.arraycopy(other.numbers, 0, numbers, 0, Math.min(numbers.length, other.numbers.length));
        }
    }

    /** Which BLOCKS are REACHED over given ways, and which DOMINATE which. */
    private static final class Flow {
        private final Row next = new Row(MOST_BLOCKS);
        private final Row dominated = new Row(MOST_BLOCKS);
        private final Row dominators = new Row(MOST_BLOCKS);
        /** The REACHED BLOCKS, each ahead of those that it DOMINATES, then by numbers; NONE behind them. */
        private final Row order = new Row(MOST_BLOCKS);
        private int reached;

        void forget() {
            next.fill(0);
        }

        void lead(int from, int to) {
            next.put(from, next.at(from) | bit(to));
        }

        void reckon() {
            reached = reachedWithout(NONE);
            dominators.fill(0);
            for (int block = 0; block < MOST_BLOCKS; block++) {
                int below = has(reached, block) ? reached & ~reachedWithout(block) : 0;
                dominated.put(block, below);
                addDominator(below, block);
            }
            int done = 0;
            for (int place = 0; place < MOST_BLOCKS; place++) {
                int block = firstReady(done);
                order.put(place, block);
                done |= bit(block);
            }
        }

        /** A BLOCK is DOMINATED by another one, if it is not REACHED without that. */
        private int reachedWithout(int left) {
            int open = bit(0) & ~bit(left);
            for (int round = 0; round < MOST_BLOCKS; round++) {
                int more = open;
                for (int block = 0; block < MOST_BLOCKS; block++) {
                    if (has(open, block)) {
                        more |= next.at(block);
                    }
                }
                open = more & ~bit(left);
            }
            return open;
        }

        private void addDominator(int below, int dominator) {
            for (int block = 0; block < MOST_BLOCKS; block++) {
                if (has(below, block)) {
                    dominators.put(block, dominators.at(block) | bit(dominator));
                }
            }
        }

        private int firstReady(int done) {
            for (int block = 0; block < MOST_BLOCKS; block++) {
                if (has(reached & ~done, block) && (dominators.at(block) & ~done) == bit(block)) {
                    return block;
                }
            }
            return NONE;
        }

        int frontier(int block) {
            int below = dominated.at(block);
            int led = 0;
            for (int other = 0; other < MOST_BLOCKS; other++) {
                if (has(below, other)) {
                    led |= next.at(other);
                }
            }
            return led & ~(below & ~bit(block));
        }

        /** The last one in the order of those that DOMINATE a BLOCK and are another one; NONE of the BLOCK 0. */
        int nearestDominator(int block) {
            int nearest = NONE;
            for (int place = 0; place < MOST_BLOCKS; place++) {
                int other = order.at(place);
                if (other != block && has(dominators.at(block), other)) {
                    nearest = other;
                }
            }
            return nearest;
        }
    }

    /** The BLOCKS as they are told, with what is REACHED, DOMINATED and WANTED in them. */
    private static final class Told {
        private final Row lines = new Row(MOST_BLOCKS);
        private final Row kinds = new Row(MOST_BLOCKS * MOST_LINES);
        private final Row variables = new Row(MOST_BLOCKS * MOST_LINES);
        private final Row firsts = new Row(MOST_BLOCKS * MOST_LINES);
        private final Row seconds = new Row(MOST_BLOCKS * MOST_LINES);
        private final Row endKinds = new Row(MOST_BLOCKS);
        private final Row endOperands = new Row(MOST_BLOCKS);
        private final Row targets = new Row(MOST_WAYS);
        private final Row usedFirst = new Row(MOST_BLOCKS);
        private final Row setIn = new Row(MOST_BLOCKS);
        private final Row wanted = new Row(MOST_BLOCKS);
        private final Flow flow = new Flow();
        private int blocks = 1;

        Told() {
            reckon();
        }

        int addBlock() {
            blocks++;
            reckon();
            return blocks - 1;
        }

        int addLine(int block, int kind, int d, int p, int q) {
            int k = lines.at(block);
            int place = block * MOST_LINES + k;
            kinds.put(place, kind);
            variables.put(place, d);
            firsts.put(place, p);
            seconds.put(place, q);
            lines.put(block, k + 1);
            reckon();
            return k;
        }

        int cutLine(int block) {
            int left = lines.at(block) - 1;
            lines.put(block, left);
            reckon();
            return left;
        }

        int putEnd(int block, int kind, int p, int to, int other) {
            int before = endKinds.at(block);
            endKinds.put(block, kind);
            endOperands.put(block, p);
            targets.put(block * WAYS, to);
            targets.put(block * WAYS + 1, other);
            reckon();
            return before;
        }

        int allLines() {
            int all = 0;
            for (int block = 0; block < blocks; block++) {
                all += lines.at(block);
            }
            return all;
        }

        private void reckon() {
            flow.forget();
            for (int block = 0; block < blocks; block++) {
                for (int k = 0; k < endKinds.at(block); k++) {
                    flow.lead(block, targets.at(block * WAYS + k));
                }
                readLines(block);
            }
            flow.reckon();
            reckonWanted();
        }

        private void readLines(int block) {
            int used = 0;
            int set = 0;
            for (int k = 0; k < lines.at(block); k++) {
                int place = block * MOST_LINES + k;
                used |= ~set & (bit(variableOf(firsts.at(place))) | bit(variableOf(seconds.at(place))));
                if (sets(kinds.at(place))) {
                    set |= bit(variables.at(place));
                }
            }
            usedFirst.put(block, used | ~set & bit(variableOf(endOperands.at(block))));
            setIn.put(block, set);
        }

        /** The longest way that matters goes through each BLOCK once: so many rounds bring all back. */
        private void reckonWanted() {
            wanted.take(usedFirst);
            for (int round = 0; round < MOST_BLOCKS; round++) {
                for (int block = 0; block < blocks; block++) {
                    int ahead = 0;
                    for (int k = 0; k < endKinds.at(block); k++) {
                        ahead |= wanted.at(targets.at(block * WAYS + k));
                    }
                    wanted.put(block, usedFirst.at(block) | ahead & ~setIn.at(block));
                }
            }
        }
    }

    /**
     * The FORM: BLOCKS of VALUES with EDGES between them. VALUES that are GONE have no place any
     * more, but stay listed in their BLOCK until the end of the pass, when they are swept out.
     */
    private static final class Form {
        private final Row kinds = new Row(MOST_VALUES);
        private final Row places = new Row(MOST_VALUES);
        private final Row variables = new Row(MOST_VALUES);
        private final Row arguments = new Row(MOST_USERS);
        private final Row starts = new Row(MOST_USERS);
        private final Row argumentValues = new Row(MOST_ARGUMENTS);
        private final Row argumentNumbers = new Row(MOST_ARGUMENTS);
        private final Row sizes = new Row(MOST_BLOCKS);
        private final Row listed = new Row(MOST_BLOCKS * MOST_VALUES);
        private final Row edges = new Row(MOST_BLOCKS);
        private final Row waysTo = new Row(MOST_BLOCKS * MOST_WAYS);
        private final Row endKinds = new Row(MOST_BLOCKS);
        private final Row targets = new Row(MOST_WAYS);
        private int blocks;
        private int there;
        private int values;
        private int given;
        private int passes;
        private int gone;

        void begin(int count, int reached) {
            blocks = count;
            there = reached;
            values = 0;
            given = 0;
            passes = 0;
            gone = 0;
            arguments.fill(0);
            sizes.fill(0);
            edges.fill(0);
            endKinds.fill(RETURN);
            targets.fill(NONE);
            for (int variable = 0; variable < VARIABLES; variable++) {
                addValue(NONE, BEGUN, NONE);
            }
        }

        void take(Form other) {
            kinds.take(other.kinds);
            places.take(other.places);
            variables.take(other.variables);
            arguments.take(other.arguments);
            starts.take(other.starts);
            argumentValues.take(other.argumentValues);
            argumentNumbers.take(other.argumentNumbers);
            sizes.take(other.sizes);
            listed.take(other.listed);
            edges.take(other.edges);
            waysTo.take(other.waysTo);
            endKinds.take(other.endKinds);
            targets.take(other.targets);
            blocks = other.blocks;
            there = other.there;
            values = other.values;
            given = other.given;
            passes = other.passes;
            gone = other.gone;
        }

        void addValue(int block, int kind, int variable) {
            kinds.put(values, kind);
            variables.put(values, variable);
            places.put(values, NONE);
            if (block != NONE) {
                putInto(values, block);
            }
            values++;
        }

        /** Behind all that is in the BLOCK. */
        void putInto(int value, int block) {
            int size = sizes.at(block);
            places.put(value, block);
            listed.put(block * MOST_VALUES + size, value);
            sizes.put(block, size + 1);
        }

        /** All ARGUMENTS of a user are given one behind the other. */
        void addArgument(int user, int value, int number) {
            int count = arguments.at(user);
            if (count == 0) {
                starts.put(user, given);
            }
            argumentValues.put(given, value);
            argumentNumbers.put(given, number);
            arguments.put(user, count + 1);
            given++;
        }

        void addEdge(int way, int to) {
            int count = edges.at(to);
            targets.put(way, to);
            waysTo.put(to * MOST_WAYS + count, way);
            edges.put(to, count + 1);
        }

        int valueIn(int block, int k) {
            return listed.at(block * MOST_VALUES + k);
        }

        int wayTo(int block, int k) {
            return waysTo.at(block * MOST_WAYS + k);
        }

        int valueOf(int user, int k) {
            return k >= 0 && k < arguments.at(user) ? argumentValues.at(starts.at(user) + k) : NONE;
        }

        int numberOf(int user, int k) {
            return k >= 0 && k < arguments.at(user) ? argumentNumbers.at(starts.at(user) + k) : 0;
        }

        int allIn(Row counts) {
            int all = 0;
            for (int block = 0; block < blocks; block++) {
                all += counts.at(block);
            }
            return all;
        }

        int allPhis() {
            int all = 0;
            for (int value = 0; value < values; value++) {
                all += kinds.at(value) == PHI && places.at(value) != NONE ? 1 : 0;
            }
            return all;
        }

        int usesOf(int value) {
            int uses = 0;
            for (int user = 0; user < MOST_USERS; user++) {
                for (int k = 0; k < arguments.at(user); k++) {
                    uses += argumentValues.at(starts.at(user) + k) == value ? 1 : 0;
                }
            }
            return uses;
        }

        /** Which of the EDGES to a BLOCK is that of a way; NONE, if none is. */
        int edgeOf(int block, int way) {
            for (int k = 0; k < edges.at(block); k++) {
                if (waysTo.at(block * MOST_WAYS + k) == way) {
                    return k;
                }
            }
            return NONE;
        }

        void replace(int value, int byValue, int byNumber) {
            redirect(value, byValue, byNumber);
            lose(value);
        }

        void redirect(int value, int toValue, int toNumber) {
            for (int user = 0; user < MOST_USERS; user++) {
                int start = starts.at(user);
                for (int k = start; k < start + arguments.at(user); k++) {
                    if (argumentValues.at(k) == value) {
                        argumentValues.put(k, toValue);
                        argumentNumbers.put(k, toNumber);
                    }
                }
            }
        }

        void lose(int value) {
            if (places.at(value) == NONE) {
                return;
            }
            places.put(value, NONE);
            arguments.put(value, 0);
            gone++;
        }

        void loseBlock(int block) {
            for (int k = 0; k < sizes.at(block); k++) {
                int value = valueIn(block, k);
                if (places.at(value) == block) {
                    lose(value);
                }
            }
            sizes.put(block, 0);
            edges.put(block, 0);
            arguments.put(FIRST_END + block, 0);
            there &= ~bit(block);
            gone++;
        }

        void sweep() {
            for (int block = 0; block < blocks; block++) {
                int start = block * MOST_VALUES;
                int left = 0;
                for (int k = 0; k < sizes.at(block); k++) {
                    int value = listed.at(start + k);
                    if (places.at(value) == block) {
                        listed.put(start + left, value);
                        left++;
                    }
                }
                sizes.put(block, left);
            }
        }

        /** Takes the EDGE of a way, and the ARGUMENTS of PHIS for it. */
        void dropEdge(int way) {
            int to = targets.at(way);
            int k = to == NONE ? NONE : edgeOf(to, way);
            if (k == NONE) {
                return;
            }
            for (int i = 0; i < sizes.at(to); i++) {
                int value = valueIn(to, i);
                if (kinds.at(value) == PHI) {
                    dropArgument(value, k);
                }
            }
            int start = to * MOST_WAYS;
            int last = edges.at(to) - 1;
            for (int i = k; i < last; i++) {
                waysTo.put(start + i, waysTo.at(start + i + 1));
            }
            edges.put(to, last);
            targets.put(way, NONE);
        }

        private void dropArgument(int user, int k) {
            int start = starts.at(user);
            int last = arguments.at(user) - 1;
            if (k > last) {
                return;
            }
            for (int i = start + k; i < start + last; i++) {
                argumentValues.put(i, argumentValues.at(i + 1));
                argumentNumbers.put(i, argumentNumbers.at(i + 1));
            }
            arguments.put(user, last);
        }

        /** The EDGE of a way becomes that of another way, where it stands. */
        void changeWay(int way, int newWay) {
            int to = targets.at(way);
            int k = to == NONE ? NONE : edgeOf(to, way);
            if (k == NONE || way == newWay) {
                return;
            }
            waysTo.put(to * MOST_WAYS + k, newWay);
            targets.put(newWay, to);
            targets.put(way, NONE);
        }

        /** A BLOCK gets the KIND and the ARGUMENT of the END of another one, which has none then. */
        void takeEnd(int block, int other) {
            endKinds.put(block, endKinds.at(other));
            starts.put(FIRST_END + block, starts.at(FIRST_END + other));
            arguments.put(FIRST_END + block, arguments.at(FIRST_END + other));
            arguments.put(FIRST_END + other, 0);
        }

        boolean hasSameArguments(int user, int other) {
            int count = arguments.at(user);
            int start = starts.at(user);
            int otherStart = starts.at(other);
            boolean isSame = count == arguments.at(other);
            for (int k = 0; k < count; k++) {
                isSame = isSame && argumentValues.at(start + k) == argumentValues.at(otherStart + k)
                        && argumentNumbers.at(start + k) == argumentNumbers.at(otherStart + k);
            }
            return isSame;
        }

        /** Of two that have two ARGUMENTS each. */
        boolean hasCrossedArguments(int user, int other) {
            int start = starts.at(user);
            int otherStart = starts.at(other);
            return argumentValues.at(start) == argumentValues.at(otherStart + 1)
                    && argumentNumbers.at(start) == argumentNumbers.at(otherStart + 1)
                    && argumentValues.at(start + 1) == argumentValues.at(otherStart)
                    && argumentNumbers.at(start + 1) == argumentNumbers.at(otherStart);
        }

        /** Where a PHI has the one ARGUMENT that all its ARGUMENTS are, but for itself; NONE, if there is none. */
        int soleArgument(int phi) {
            int start = starts.at(phi);
            int sole = NONE;
            for (int k = 0; k < arguments.at(phi); k++) {
                int value = argumentValues.at(start + k);
                if (value == phi) {
                    continue;
                }
                if (sole == NONE) {
                    sole = k;
                } else if (value != argumentValues.at(start + sole)
                        || argumentNumbers.at(start + k) != argumentNumbers.at(start + sole)) {
                    return NONE;
                }
            }
            return sole;
        }
    }

    /** Makes the FORM of what is told. */
    private static final class Maker {
        /** By BLOCK and VARIABLE, what that holds at the end of the BLOCK: a VALUE, or NONE and a number. */
        private final Row heldValues = new Row(MOST_BLOCKS * VARIABLES);
        private final Row heldNumbers = new Row(MOST_BLOCKS * VARIABLES);
        private final Row phis = new Row(MOST_BLOCKS);

        void make(Told told, Form form) {
            form.begin(told.blocks, told.flow.reached);
            placePhis(told);
            for (int block = 0; block < told.blocks; block++) {
                if (has(form.there, block)) {
                    addValues(told, form, block);
                    addEdges(told, form, block);
                }
            }
            for (int place = 0; place < MOST_BLOCKS; place++) {
                int block = told.flow.order.at(place);
                if (block != NONE) {
                    holdAtBeginning(told, form, block);
                    followLines(told, form, block);
                }
            }
            givePhisTheirs(form);
        }

        private void placePhis(Told told) {
            phis.fill(0);
            for (int variable = 0; variable < VARIABLES; variable++) {
                int joined = whereJoined(told, variable);
                for (int block = 0; block < told.blocks; block++) {
                    if (has(joined, block) && has(told.wanted.at(block), variable)) {
                        phis.put(block, phis.at(block) | bit(variable));
                    }
                }
            }
        }

        /** Where a VARIABLE has, or would have, a PHI. */
        private int whereJoined(Told told, int variable) {
            int sources = bit(0);
            for (int block = 0; block < told.blocks; block++) {
                if (has(told.setIn.at(block), variable)) {
                    sources |= bit(block);
                }
            }
            int joined = 0;
            for (int round = 0; round < MOST_BLOCKS; round++) {
                for (int block = 0; block < told.blocks; block++) {
                    if (has(sources | joined, block)) {
                        joined |= told.flow.frontier(block);
                    }
                }
            }
            return joined;
        }

        private void addValues(Told told, Form form, int block) {
            for (int variable = 0; variable < VARIABLES; variable++) {
                if (has(phis.at(block), variable)) {
                    form.addValue(block, PHI, variable);
                }
            }
            for (int k = 0; k < told.lines.at(block); k++) {
                int kind = told.kinds.at(block * MOST_LINES + k);
                if (kind != PUT) {
                    form.addValue(block, kind, NONE);
                }
            }
        }

        private void addEdges(Told told, Form form, int block) {
            int kind = told.endKinds.at(block);
            form.endKinds.put(block, kind);
            for (int k = 0; k < kind; k++) {
                int way = block * WAYS + k;
                form.addEdge(way, told.targets.at(way));
            }
        }

        private void holdAtBeginning(Told told, Form form, int block) {
            int nearest = told.flow.nearestDominator(block);
            for (int variable = 0; variable < VARIABLES; variable++) {
                int from = nearest * VARIABLES + variable;
                hold(block, variable, nearest == NONE ? variable : heldValues.at(from),
                        nearest == NONE ? 0 : heldNumbers.at(from));
            }
            for (int k = 0; k < form.sizes.at(block); k++) {
                int value = form.valueIn(block, k);
                if (form.kinds.at(value) == PHI) {
                    hold(block, form.variables.at(value), value, 0);
                }
            }
        }

        private void hold(int block, int variable, int value, int number) {
            heldValues.put(block * VARIABLES + variable, value);
            heldNumbers.put(block * VARIABLES + variable, number);
        }

        private void followLines(Told told, Form form, int block) {
            int at = Integer.bitCount(phis.at(block));
            for (int k = 0; k < told.lines.at(block); k++) {
                int place = block * MOST_LINES + k;
                int kind = told.kinds.at(place);
                int first = told.firsts.at(place);
                int value = NONE;
                if (kind != PUT) {
                    value = form.valueIn(block, at);
                    at++;
                    give(form, value, block, first);
                    if (isReckoning(kind) || kind == STORE) {
                        give(form, value, block, told.seconds.at(place));
                    }
                }
                if (kind == PUT) {
                    hold(block, told.variables.at(place), valueFor(block, first), numberFor(block, first));
                } else if (sets(kind)) {
                    hold(block, told.variables.at(place), value, 0);
                }
            }
            if (told.endKinds.at(block) != JUMP) {
                give(form, FIRST_END + block, block, told.endOperands.at(block));
            }
        }

        private void give(Form form, int user, int block, int operand) {
            form.addArgument(user, valueFor(block, operand), numberFor(block, operand));
        }

        private int valueFor(int block, int operand) {
            int variable = variableOf(operand);
            return variable == NONE ? NONE : heldValues.at(block * VARIABLES + variable);
        }

        private int numberFor(int block, int operand) {
            int variable = variableOf(operand);
            return variable == NONE ? operand : heldNumbers.at(block * VARIABLES + variable);
        }

        private void givePhisTheirs(Form form) {
            for (int value = 0; value < form.values; value++) {
                if (form.kinds.at(value) == PHI) {
                    givePhi(form, value);
                }
            }
        }

        private void givePhi(Form form, int phi) {
            int block = form.places.at(phi);
            for (int k = 0; k < form.edges.at(block); k++) {
                int held = fromOf(form.wayTo(block, k)) * VARIABLES + form.variables.at(phi);
                form.addArgument(phi, heldValues.at(held), heldNumbers.at(held));
            }
        }
    }

    /** The pass 1. What is known of a VALUE only ever rises: UNKNOWN, a number, MANY. */
    private static final class Constants {
        private static final int UNKNOWN = 0;
        private static final int NUMBER = 1;
        private static final int MANY = 2;
        /** Each round but the last one lets a VALUE rise (twice at most), or goes along a way. */
        private static final int ROUNDS = 2 * MOST_VALUES + MOST_WAYS + 1;

        private final Row known = new Row(MOST_VALUES);
        private final Row numbers = new Row(MOST_VALUES);
        private int come;
        private int along;
        private boolean hasRisen;

        void goOver(Form form) {
            begin();
            for (int round = 0; hasRisen && round < ROUNDS; round++) {
                hasRisen = false;
                for (int block = 0; block < form.blocks; block++) {
                    if (has(come, block)) {
                        visit(form, block);
                        goOn(form, block);
                    }
                }
            }
            cutWays(form);
            loseBlocks(form);
            replaceNumbers(form);
        }

        private void begin() {
            known.fill(UNKNOWN);
            numbers.fill(0);
            for (int value = 0; value < VARIABLES; value++) {
                known.put(value, value < 2 ? MANY : NUMBER);
            }
            come = bit(0);
            along = 0;
            hasRisen = true;
        }

        private void visit(Form form, int block) {
            for (int k = 0; k < form.sizes.at(block); k++) {
                int value = form.valueIn(block, k);
                int kind = form.kinds.at(value);
                if (kind == PHI) {
                    meet(form, block, value);
                } else if (kind == LOAD) {
                    rise(value, MANY, 0);
                } else if (isReckoning(kind)) {
                    reckon(form, value, kind);
                }
            }
        }

        private void meet(Form form, int block, int phi) {
            int met = UNKNOWN;
            int number = 0;
            for (int k = 0; k < form.edges.at(block); k++) {
                int place = form.starts.at(phi) + k;
                int of = has(along, form.wayTo(block, k)) ? knownAt(form, place) : UNKNOWN;
                boolean isOther = of == NUMBER && met == NUMBER && numberAt(form, place) != number;
                if (of == NUMBER && met == UNKNOWN) {
                    met = NUMBER;
                    number = numberAt(form, place);
                } else if (of == MANY || isOther) {
                    met = MANY;
                }
            }
            rise(phi, met, number);
        }

        private void reckon(Form form, int value, int kind) {
            int first = form.starts.at(value);
            int p = knownAt(form, first);
            int q = knownAt(form, first + 1);
            if (p == UNKNOWN || q == UNKNOWN) {
                return;
            }
            int divisor = numberAt(form, first + 1);
            if (p == MANY || q == MANY || kind == DIV && divisor == 0) {
                rise(value, MANY, 0);
            } else {
                rise(value, NUMBER, reckoned(kind, numberAt(form, first), divisor));
            }
        }

        private int knownAt(Form form, int place) {
            int value = form.argumentValues.at(place);
            return value == NONE ? NUMBER : known.at(value);
        }

        private int numberAt(Form form, int place) {
            int value = form.argumentValues.at(place);
            return value == NONE ? form.argumentNumbers.at(place) : numbers.at(value);
        }

        private void rise(int value, int to, int number) {
            if (to > known.at(value)) {
                known.put(value, to);
                numbers.put(value, number);
                hasRisen = true;
            }
        }

        private void goOn(Form form, int block) {
            int way = block * WAYS;
            int kind = form.endKinds.at(block);
            if (kind == JUMP) {
                goAlong(form, way);
            }
            if (kind != IF) {
                return;
            }
            int place = form.starts.at(FIRST_END + block);
            int of = knownAt(form, place);
            boolean isAbove = of == NUMBER && numberAt(form, place) > 0;
            if (of == MANY || isAbove) {
                goAlong(form, way);
            }
            if (of == MANY || of == NUMBER && !isAbove) {
                goAlong(form, way + 1);
            }
        }

        private void goAlong(Form form, int way) {
            int to = form.targets.at(way);
            if (!has(along, way) && to != NONE) {
                along |= bit(way);
                come |= bit(to);
                hasRisen = true;
            }
        }

        private void cutWays(Form form) {
            for (int block = 0; block < form.blocks; block++) {
                int end = FIRST_END + block;
                int place = form.starts.at(end);
                if (has(come, block) && form.endKinds.at(block) == IF && knownAt(form, place) == NUMBER) {
                    int taken = block * WAYS + (numberAt(form, place) > 0 ? 0 : 1);
                    int left = block * WAYS + (numberAt(form, place) > 0 ? 1 : 0);
                    form.dropEdge(left);
                    form.changeWay(taken, block * WAYS);
                    form.endKinds.put(block, JUMP);
                    form.arguments.put(end, 0);
                }
            }
        }

        private void loseBlocks(Form form) {
            for (int block = 0; block < form.blocks; block++) {
                if (has(form.there & ~come, block)) {
                    form.dropEdge(block * WAYS);
                    form.dropEdge(block * WAYS + 1);
                    form.loseBlock(block);
                }
            }
        }

        private void replaceNumbers(Form form) {
            for (int value = 0; value < form.values; value++) {
                if (known.at(value) == NUMBER && form.places.at(value) != NONE) {
                    form.replace(value, NONE, numbers.at(value));
                } else if (known.at(value) == NUMBER && value < VARIABLES) {
                    form.redirect(value, NONE, 0);
                }
            }
        }
    }

    /** The pass 2. */
    private static final class Numbers {
        private final Flow flow = new Flow();

        void goOver(Form form) {
            readEdges(form);
            flow.reckon();
            for (int place = 0; place < MOST_BLOCKS; place++) {
                int block = flow.order.at(place);
                if (block != NONE) {
                    visit(form, block);
                }
            }
        }

        private void readEdges(Form form) {
            flow.forget();
            for (int block = 0; block < form.blocks; block++) {
                for (int k = 0; k < form.edges.at(block); k++) {
                    flow.lead(fromOf(form.wayTo(block, k)), block);
                }
            }
        }

        private void visit(Form form, int block) {
            for (int k = 0; k < form.sizes.at(block); k++) {
                int value = form.valueIn(block, k);
                int kind = form.kinds.at(value);
                int sole = kind == PHI ? form.soleArgument(value) : NONE;
                int twin = NONE;
                if (kind == PHI && sole == NONE) {
                    twin = twinOfPhi(form, block, k);
                } else if (isReckoning(kind)) {
                    twin = twinOfReckoning(form, block, k);
                }
                if (sole != NONE) {
                    form.replace(value, form.valueOf(value, sole), form.numberOf(value, sole));
                } else if (twin != NONE) {
                    form.replace(value, twin, 0);
                }
            }
        }

        private static int twinOfPhi(Form form, int block, int k) {
            int phi = form.valueIn(block, k);
            for (int i = 0; i < k; i++) {
                int other = form.valueIn(block, i);
                if (isStill(form, other, PHI, block) && form.hasSameArguments(phi, other)) {
                    return other;
                }
            }
            return NONE;
        }

        private int twinOfReckoning(Form form, int block, int k) {
            int value = form.valueIn(block, k);
            int kind = form.kinds.at(value);
            boolean inEitherOrder = kind == ADD || kind == MUL;
            for (int place = 0; place < MOST_BLOCKS; place++) {
                int above = flow.order.at(place);
                int count = !has(flow.dominators.at(block), above) ? 0 : above == block ? k : form.sizes.at(above);
                for (int i = 0; i < count; i++) {
                    int other = form.valueIn(above, i);
                    if (isStill(form, other, kind, above) && (form.hasSameArguments(value, other)
                            || inEitherOrder && form.hasCrossedArguments(value, other))) {
                        return other;
                    }
                }
            }
            return NONE;
        }

        private static boolean isStill(Form form, int value, int kind, int block) {
            return form.kinds.at(value) == kind && form.places.at(value) == block;
        }
    }

    /** The pass 3. */
    private static final class Dead {
        private final Row needed = new Row(MOST_VALUES);
        private boolean hasRisen;

        void goOver(Form form) {
            needed.fill(0);
            for (int value = VARIABLES; value < form.values; value++) {
                if (form.places.at(value) != NONE && isNeededBySelf(form, value)) {
                    needed.put(value, 1);
                }
            }
            for (int block = 0; block < form.blocks; block++) {
                needArguments(form, FIRST_END + block);
            }
            hasRisen = true;
            for (int round = 0; hasRisen && round <= MOST_VALUES; round++) {
                hasRisen = false;
                for (int value = VARIABLES; value < form.values; value++) {
                    if (needed.at(value) == 1) {
                        needArguments(form, value);
                    }
                }
            }
            loseOthers(form);
        }

        private static boolean isNeededBySelf(Form form, int value) {
            int kind = form.kinds.at(value);
            boolean mayTrap = kind == DIV && (form.valueOf(value, 1) != NONE || form.numberOf(value, 1) == 0);
            return kind == STORE || kind == PRINT || mayTrap;
        }

        private void needArguments(Form form, int user) {
            for (int k = 0; k < form.arguments.at(user); k++) {
                int value = form.valueOf(user, k);
                if (value != NONE && needed.at(value) == 0) {
                    needed.put(value, 1);
                    hasRisen = true;
                }
            }
        }

        private void loseOthers(Form form) {
            for (int value = VARIABLES; value < form.values; value++) {
                if (needed.at(value) == 0) {
                    form.lose(value);
                }
            }
        }
    }

    /** The pass 4. */
    private static final class Joiner {
        void goOver(Form form) {
            for (int round = 0; round < MOST_BLOCKS; round++) {
                int block = firstToJoin(form);
                if (block == NONE) {
                    return;
                }
                int next = form.targets.at(block * WAYS);
                moveValues(form, block, next);
                moveEnd(form, block, next);
                form.loseBlock(next);
            }
        }

        private static int firstToJoin(Form form) {
            for (int block = 0; block < form.blocks; block++) {
                int next = form.targets.at(block * WAYS);
                if (has(form.there, block) && form.endKinds.at(block) == JUMP
                        && next != block && form.edges.at(next) == 1) {
                    return block;
                }
            }
            return NONE;
        }

        private static void moveValues(Form form, int block, int next) {
            for (int k = 0; k < form.sizes.at(next); k++) {
                int value = form.valueIn(next, k);
                if (form.kinds.at(value) == PHI) {
                    form.replace(value, form.valueOf(value, 0), form.numberOf(value, 0));
                } else if (form.places.at(value) == next) {
                    form.putInto(value, block);
                }
            }
        }

        private static void moveEnd(Form form, int block, int next) {
            form.dropEdge(block * WAYS);
            for (int k = 0; k < WAYS; k++) {
                form.changeWay(next * WAYS + k, block * WAYS + k);
            }
            form.takeEnd(block, next);
        }
    }

    /** What a run leaves behind. */
    private static final class Tape {
        private final Row kept;
        private final Row cells = new Row(CELLS);
        private boolean isOn;
        private int ended;
        private int returned;
        private int count;
        private int cost;
        private int ends;

        Tape(int length) {
            kept = new Row(length);
        }

        void begin() {
            cells.fill(0);
            isOn = true;
            ended = RETURNED;
            returned = 0;
            count = 0;
            cost = 0;
            ends = 0;
        }

        private void finish(int how) {
            isOn = false;
            ended = how;
        }

        /** Does a LINE, or a VALUE that is no PHI; answers what it makes, 0 if it makes nothing. */
        int act(int kind, int p, int q) {
            cost += costOf(kind);
            switch (kind) {
                case PUT:
                    return p;
                case LOAD:
                    return cells.at(Math.floorMod(p, CELLS));
                case STORE:
                    cells.put(Math.floorMod(p, CELLS), q);
                    return 0;
                case PRINT:
                    kept.put(count, p);
                    count++;
                    return 0;
                default:
                    if (kind == DIV && q == 0) {
                        finish(TRAPPED);
                    }
                    return reckoned(kind, p, q);
            }
        }

        /** Goes through an END; answers which of its ways is taken. */
        int leaveBy(int kind, int argument) {
            if (!isOn) {
                return 0;
            }
            if (ends >= MOST_ENDS) {
                finish(CUT);
                return 0;
            }
            ends++;
            if (kind == RETURN) {
                returned = argument;
                finish(RETURNED);
                return 0;
            }
            cost += kind == IF ? 2 : 1;
            return kind == IF && argument <= 0 ? 1 : 0;
        }

        /** Asked of a run of the BLOCKS, all of whose numbers are kept. */
        boolean isLike(Tape other) {
            boolean isSame = ended == other.ended && returned == other.returned && count == other.count;
            for (int cell = 0; cell < CELLS; cell++) {
                isSame = isSame && cells.at(cell) == other.cells.at(cell);
            }
            for (int k = 0; isSame && k < count; k++) {
                isSame = kept.at(k) == other.kept.at(k);
            }
            return isSame;
        }
    }

    /** Runs the BLOCKS as they are told, or a FORM. */
    private static final class Runner {
        private final Row variables = new Row(VARIABLES);
        private final Row held = new Row(MOST_VALUES);
        private final Row fresh = new Row(MOST_VALUES);

        void walkBlocks(Told told, int a, int b, Tape tape) {
            tape.begin();
            variables.fill(0);
            variables.put(0, a);
            variables.put(1, b);
            int block = 0;
            for (int visit = 0; tape.isOn && visit <= MOST_ENDS; visit++) {
                doLines(told, block, tape);
                int way = block * WAYS + tape.leaveBy(told.endKinds.at(block), read(told.endOperands.at(block)));
                block = told.targets.at(way);
            }
        }

        private void doLines(Told told, int block, Tape tape) {
            for (int k = 0; tape.isOn && k < told.lines.at(block); k++) {
                int place = block * MOST_LINES + k;
                int kind = told.kinds.at(place);
                int made = tape.act(kind, read(told.firsts.at(place)), read(told.seconds.at(place)));
                if (sets(kind)) {
                    variables.put(told.variables.at(place), made);
                }
            }
        }

        private int read(int operand) {
            int variable = variableOf(operand);
            return variable == NONE ? operand : variables.at(variable);
        }

        void walkForm(Form form, int a, int b, Tape tape) {
            tape.begin();
            held.fill(0);
            held.put(0, a);
            held.put(1, b);
            int block = 0;
            int way = NONE;
            for (int visit = 0; tape.isOn && visit <= MOST_ENDS; visit++) {
                doPhis(form, block, form.edgeOf(block, way));
                doValues(form, block, tape);
                way = block * WAYS + tape.leaveBy(form.endKinds.at(block), reckon(form, FIRST_END + block, 0));
                block = form.targets.at(way);
            }
        }

        /** All at once: none may see what another one of them becomes. */
        private void doPhis(Form form, int block, int edge) {
            for (int k = 0; k < form.sizes.at(block); k++) {
                int value = form.valueIn(block, k);
                if (form.kinds.at(value) == PHI) {
                    fresh.put(value, reckon(form, value, edge));
                }
            }
            for (int k = 0; k < form.sizes.at(block); k++) {
                int value = form.valueIn(block, k);
                if (form.kinds.at(value) == PHI) {
                    held.put(value, fresh.at(value));
                }
            }
        }

        private void doValues(Form form, int block, Tape tape) {
            for (int k = 0; tape.isOn && k < form.sizes.at(block); k++) {
                int value = form.valueIn(block, k);
                int kind = form.kinds.at(value);
                if (kind != PHI) {
                    held.put(value, tape.act(kind, reckon(form, value, 0), reckon(form, value, 1)));
                }
            }
        }

        private int reckon(Form form, int user, int k) {
            int value = form.valueOf(user, k);
            return value == NONE ? form.numberOf(user, k) : held.at(value);
        }
    }
}
