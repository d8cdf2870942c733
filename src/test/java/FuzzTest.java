import java.util.function.LongSupplier;

/** Long runs of calls, the same each time, on the program and on the Reference: each answer has to be the same. */
public final class FuzzTest {
    private static final int OBJECTS = 1500;
    private static final int CALLS = 120;
    private static final int MOST_CALLS = 350;

    private static long state;
    private static int wrong;
    private static int compared;

    private static int below(int n) {
        state = state * 6364136223846793005L + 1442695040888963407L;
        return (int) ((state >>> 33) % n);
    }

    private static int pick(int... all) {
        return all[below(all.length)];
    }

    private static String answer(LongSupplier call) {
        try {
            return Long.toString(call.getAsLong());
        } catch (IndexOutOfBoundsException e) {
            return e.getClass() == IndexOutOfBoundsException.class ? "throws.IndexOutOfBounds" : "machine " + e;
        } catch (IllegalArgumentException e) {
            return "throws.IllegalArgument";
        } catch (IllegalStateException e) {
            return "throws.IllegalState";
        } catch (RuntimeException e) {
            return "machine " + e;
        }
    }

    private static boolean same(int object, String call, LongSupplier program, LongSupplier reference) {
        String got = answer(program);
        String want = answer(reference);
        compared++;
        if (!got.equals(want)) {
            wrong++;
            System.out.println("object " + object + ": " + call + " answered " + got + ", the reference " + want);
        }
        return got.equals(want);
    }

    private static int operand() {
        return below(10) < 6 ? 100 + below(6) : below(10) == 0 ? pick(-99, 99, 106, -100, 50) : below(5) - 1;
    }

    private static boolean tellLine(int object, PhiHall x, Reference r, int blocks) {
        int block = below(30) == 0 ? pick(-1, blocks) : below(blocks);
        int kind = below(40) == 0 ? pick(-1, 9) : pick(0, 0, 1, 1, 1, 2, 2, 3, 3, 4, 5, 5, 6, 7, 8);
        boolean wild = below(30) == 0;
        int d = wild ? pick(-1, 6, 0, 1) : kind >= 7 ? 0 : below(6);
        int p = operand();
        int q = wild ? operand() : kind == 0 || kind == 6 || kind == 8 ? 0 : operand();
        return same(object, "line(" + block + ", " + kind + ", " + d + ", " + p + ", " + q + ")",
                () -> x.line(block, kind, d, p, q), () -> r.line(block, kind, d, p, q));
    }

    /** What was told before, for another VARIABLE or in another BLOCK: so that there are VALUES that are the same. */
    private static boolean tellTwin(int object, PhiHall x, Reference r, int blocks) {
        int from = below(blocks);
        int block = below(3) == 0 ? from : below(blocks);
        int count = r.blocks.get(from).lines.size();
        if (count == 0) return tellLine(object, x, r, blocks);
        Reference.Line l = r.blocks.get(from).lines.get(below(count));
        boolean isCrossed = l.kind >= 1 && l.kind <= 5 && below(3) == 0;
        int d = l.kind >= 7 || below(2) == 0 ? l.d : below(6);
        int p = isCrossed ? l.q : l.p;
        int q = isCrossed ? l.p : l.q;
        return same(object, "line(" + block + ", " + l.kind + ", " + d + ", " + p + ", " + q + ")",
                () -> x.line(block, l.kind, d, p, q), () -> r.line(block, l.kind, d, p, q));
    }

    private static boolean tellEnd(int object, PhiHall x, Reference r, int blocks, int block) {
        int kind = below(40) == 0 ? pick(-1, 3) : pick(0, 1, 1, 2, 2, 2, 2);
        boolean wild = below(40) == 0;
        int p = kind == 1 && !wild ? 0 : operand();
        int to = wild ? pick(-1, 0, blocks) : kind == 0 ? 0 : 1 + below(Math.max(1, blocks - 1));
        int other = wild ? pick(0, blocks, 1) : kind != 2 ? 0 : below(6) == 0 ? to : 1 + below(Math.max(1, blocks - 1));
        return same(object, "end(" + block + ", " + kind + ", " + p + ", " + to + ", " + other + ")",
                () -> x.end(block, kind, p, to, other), () -> r.end(block, kind, p, to, other));
    }

    private static boolean ask(int object, PhiHall x, Reference r) {
        int a = below(13) - 1;
        int b = below(13) - 2;
        int v = below(70) - 1;
        int p = below(6);
        int in1 = pick(-3, -1, 0, 1, 2, 3, 5, 9, Integer.MAX_VALUE, Integer.MIN_VALUE);
        int in2 = pick(-2, -1, 0, 1, 2, 4, 7, Integer.MIN_VALUE);
        switch (below(18)) {
            case 0: return same(object, "ofBlock(" + a + ", " + b + ")", () -> x.ofBlock(a, b), () -> r.ofBlock(a, b));
            case 1: return same(object, "ofPlace(" + a + ", " + b + ")", () -> x.ofPlace(a, b), () -> r.ofPlace(a, b));
            case 2: return same(object, "valueAt(" + a + ", " + b + ")", () -> x.valueAt(a, b), () -> r.valueAt(a, b));
            case 3: return same(object, "edge(" + a + ", " + b + ")", () -> x.edge(a, b), () -> r.edge(a, b));
            case 4: return same(object, "ofValue(" + v + ", " + p + ")", () -> x.ofValue(v, p), () -> r.ofValue(v, p));
            case 5: return same(object, "argument(" + v + ", " + (b - 1) + ")", () -> x.argument(v, b - 1), () -> r.argument(v, b - 1));
            case 6: return same(object, "number(" + v + ", " + (b - 1) + ")", () -> x.number(v, b - 1), () -> r.number(v, b - 1));
            case 7: return same(object, "run(" + in1 + ", " + in2 + ")", () -> x.run(in1, in2), () -> r.run(in1, in2));
            case 8: return same(object, "runForm(" + in1 + ", " + in2 + ")", () -> x.runForm(in1, in2), () -> r.runForm(in1, in2));
            case 9: return same(object, "ofRun(" + b + ")", () -> x.ofRun(b), () -> r.ofRun(b));
            case 10: return same(object, "printed(" + v + ")", () -> x.printed(v), () -> r.printed(v));
            case 11: return same(object, "cell(" + a + ")", () -> x.cell(a), () -> r.cell(a));
            case 12: return same(object, "many(" + a + ")", () -> x.many(a), () -> r.many(a));
            case 13: return same(object, "meanCost()", () -> Double.doubleToLongBits(x.meanCost()), () -> Double.doubleToLongBits(r.meanCost()));
            case 14: return same(object, "wouldGo(" + p + ")", () -> x.wouldGo(p), () -> r.wouldGo(p));
            case 15: return same(object, "wouldCost(" + (p - 1) + ", ..)", () -> x.wouldCost(p - 1, in1, in2), () -> r.wouldCost(p - 1, in1, in2))
                    && same(object, "wouldCost(6)", () -> x.wouldCost(6, 0, 0), () -> r.wouldCost(6, 0, 0));
            case 16: return same(object, "untilStill()", x::untilStill, r::untilStill);
            default: return same(object, "isAlike(" + in1 + ", " + in2 + ")", () -> x.isAlike(in1, in2) ? 1 : 0, () -> r.isAlike(in1, in2) ? 1 : 0);
        }
    }

    private static boolean change(int object, PhiHall x, Reference r) {
        int blocks = r.blocks.size();
        int block = below(30) == 0 ? pick(-1, blocks) : below(blocks);
        switch (below(12)) {
            case 0: return same(object, "block()", x::block, r::block);
            case 1: return same(object, "cut(" + block + ")", () -> x.cut(block), () -> r.cut(block));
            case 2: return tellLine(object, x, r, blocks);
            case 3: return tellEnd(object, x, r, blocks, block);
            case 4:
            case 5: return same(object, "form()", x::form, r::form);
            default:
                int pass = below(20) == 0 ? pick(0, 5) : 1 + below(4);
                return same(object, "pass(" + pass + ")", () -> x.pass(pass), () -> r.pass(pass));
        }
    }

    /** VARIABLES that are MANY for the pass 1, which would take most of a FORM else. */
    private static boolean tellUnknown(int object, PhiHall x, Reference r) {
        boolean fine = true;
        for (int d = 2; d < 6; d++) {
            int variable = d;
            int kind = pick(0, 1, 2, 6);
            int p = 100 + below(2);
            int q = kind == 0 || kind == 6 ? 0 : pick(100, 101, 1, 1);
            fine &= same(object, "line(0, " + kind + ", " + d + ", " + p + ", " + q + ")",
                    () -> x.line(0, kind, variable, p, q), () -> r.line(0, kind, variable, p, q));
        }
        return fine;
    }

    /** An END of one of the shapes that are rare else: to itself, both ways to one BLOCK, back, or past BLOCKS that are not REACHED then. */
    private static boolean tellTwistedEnd(int object, PhiHall x, Reference r, int blocks, int block) {
        int self = Math.max(1, block);
        int back = 1 + below(Math.max(1, block));
        int past = Math.min(blocks - 1, block + 2);
        int[][] shapes = {{1, 0, self, 0}, {2, 100 + below(6), self, self}, {2, operand(), self, past}, {2, 100 + below(2), past, self},
            {2, 100 + below(6), past, past}, {2, 1, back, past}, {2, 0, back, past}, {2, 100 + below(6), back, past}, {1, 0, past, 0}, {1, 0, back, 0}};
        int[] s = shapes[below(shapes.length)];
        return same(object, "end(" + block + ", " + s[0] + ", " + s[1] + ", " + s[2] + ", " + s[3] + ")",
                () -> x.end(block, s[0], s[1], s[2], s[3]), () -> r.end(block, s[0], s[1], s[2], s[3]));
    }

    private static boolean tellProgram(int object, PhiHall x, Reference r) {
        boolean isFull = object % 8 == 0;
        boolean isTwisted = object % 4 == 1 || object % 16 == 8;
        int blocks = isFull ? 10 : 1 + below(10);
        boolean fine = true;
        for (int k = 1; k < blocks; k++) fine &= same(object, "block()", x::block, r::block);
        if (below(2) == 0) fine &= tellUnknown(object, x, r);
        int lines = isFull ? 120 : below(5 * blocks + 1);
        for (int k = 0; k < lines; k++) fine &= below(4) == 0 ? tellTwin(object, x, r, blocks) : tellLine(object, x, r, blocks);
        for (int k = 0; k < blocks; k++) fine &= isTwisted ? tellTwistedEnd(object, x, r, blocks, k) : tellEnd(object, x, r, blocks, k);
        return fine;
    }

    /** What the document promises nowhere, but what the passes are for: they change nothing that can be seen. */
    private static boolean checkMeaning(int object, Reference r, PhiHall x) {
        boolean fine = true;
        for (int a = -1; a <= 3 && x.many(3) == 1; a++) {
            PhiHall fresh = new PhiHall();
            for (int k = 1; k < r.blocks.size(); k++) fresh.block();
            for (int k = 0; k < r.blocks.size(); k++) {
                Reference.Block b = r.blocks.get(k);
                for (Reference.Line l : b.lines) fresh.line(k, l.kind, l.d, l.p, l.q);
                fresh.end(k, b.endKind, b.p, b.to, b.other);
            }
            fresh.form();
            for (int k = 0; k < 8; k++) {
                boolean isCut = fresh.run(a, k) == 2;
                if (!isCut && !fresh.isAlike(a, k)) {
                    System.out.println("object " + object + ": pass behind " + k + " changed the meaning");
                    wrong++;
                    fine = false;
                }
                fresh.pass(1 + (k * 3 + a + 1) % 4);
            }
        }
        return fine;
    }

    private static void checkObject(int object) {
        state = object * 7919L + 17;
        PhiHall x = new PhiHall();
        Reference r = new Reference();
        boolean fine = tellProgram(object, x, r) && same(object, "digest()", x::digest, r::digest);
        int calls = object % 40 == 7 ? MOST_CALLS : CALLS;
        for (int k = 0; fine && k < calls; k++) {
            fine = below(3) == 0 ? change(object, x, r) : ask(object, x, r);
            if (fine && below(10) == 0) fine = same(object, "digest() behind call " + k, x::digest, r::digest);
        }
        if (fine && same(object, "digest()", x::digest, r::digest)) checkMeaning(object, r, x);
    }

    public static void main(String[] args) {
        int objects = args.length > 0 ? Integer.parseInt(args[0]) : OBJECTS;
        for (int object = 0; object < objects && wrong < 20; object++) checkObject(object);
        System.out.println("FuzzTest: " + compared + " answers compared, " + wrong + " wrong");
        if (wrong != 0) System.exit(1);
    }
}
