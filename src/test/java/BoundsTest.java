import java.util.List;
import java.util.function.Consumer;

/**
 * Each sentence of the document that names a boundary case of what is answered has a test of its own
 * here, under its words: the last case on the one side and the first on the other, an empty and a full
 * one, a number that goes round. RefusedTest has those of the calls that are refused.
 */
public final class BoundsTest extends Programs {
    private static final int LEAST = Integer.MIN_VALUE;
    private static final int MOST = Integer.MAX_VALUE;

    private static final Check C = new Check("BoundsTest");

    private static int ran(PhiHall x, int a, int b) {
        x.run(a, b);
        return x.ofRun(1);
    }

    private static int ranForm(PhiHall x, int a, int b) {
        x.form();
        x.runForm(a, b);
        return x.ofRun(1);
    }

    /** What a KIND makes of two numbers: of the BLOCKS, and of the FORM. */
    private static void reckons(int kind, int a, int b, int want) {
        String call = "kind " + kind + " of " + a + " and " + b;
        C.is(call, ran(reckoning(kind), a, b), want);
        C.is(call + " in the FORM", ranForm(reckoning(kind), a, b), want);
    }

    /** The number that the pass 1 finds for a KIND of two numbers. */
    private static void isConstant(int kind, int p, int q, int want) {
        PhiHall x = new PhiHall();
        x.line(0, kind, 2, p, q);
        give(x, 0, V2);
        x.form();
        C.is("pass(1) of kind " + kind + " of " + p + " and " + q, x.pass(1), 1);
        C.is("kind " + kind + " of " + p + " and " + q, x.ofPlace(0, 7), want);
    }

    // ---- Terms

    private static void goRound() {
        C.part("'All numbers are whole, and go round as ints do'");
        reckons(1, MOST, 0, MOST);
        reckons(1, MOST, 1, LEAST);
        reckons(1, LEAST, -1, MOST);
        reckons(1, LEAST, LEAST, 0);
        reckons(2, LEAST, 0, LEAST);
        reckons(2, LEAST, 1, MOST);
        reckons(2, MOST, -1, LEAST);
        reckons(2, 0, LEAST, LEAST);
        reckons(3, 1 << 16, (1 << 15) - 1, MOST - 65535);
        reckons(3, 1 << 16, 1 << 15, LEAST);
        reckons(3, 1 << 16, 1 << 16, 0);
        reckons(3, MOST, MOST, 1);
        reckons(3, LEAST, -1, LEAST);
        reckons(4, LEAST, -1, LEAST);
        reckons(4, MOST, -1, -MOST);
        reckons(4, LEAST, 1, LEAST);
    }

    private static void goRoundInThePass() {
        C.part("'All numbers are whole, and go round as ints do', in the pass 1");
        PhiHall x = withBlocks(2);
        put(x, 0, 2, 64);
        x.line(0, 3, 2, V2, V2);
        x.line(0, 3, 2, V2, V2);
        x.line(0, 3, 2, V2, 64);
        x.line(0, 1, 2, V2, V2);
        jump(x, 0, 1);
        x.line(1, 2, 3, V2, 1);
        print(x, 1, V3);
        x.line(1, 4, 4, V2, -1);
        print(x, 1, V4);
        x.line(1, 3, 5, V2, 2);
        print(x, 1, V5);
        x.line(1, 5, 5, V2, V3);
        print(x, 1, V5);
        give(x, 1, V2);
        x.form();
        C.is("pass(1)", x.pass(1), 8);
        C.is("2^31 goes round", x.ofPlace(1, 7), LEAST);
        C.is("one below that", x.number(11, 0), MOST);
        C.is("divided by -1", x.number(13, 0), LEAST);
        C.is("doubled", x.number(15, 0), 0);
        C.is("LESS does not go round", x.number(17, 0), 1);
    }

    private static void cutTowardsZero() {
        C.part("'/ is cut towards 0'");
        int[][] all = {{7, 2, 3}, {-7, 2, -3}, {7, -2, -3}, {-7, -2, 3}, {1, 2, 0}, {-1, 2, 0}, {1, -2, 0}, {-2, 2, -1}, {0, -5, 0}, {-99, 100 - 1, -1}};
        for (int[] a : all) {
            reckons(4, a[0], a[1], a[2]);
            isConstant(4, a[0], a[1], a[2]);
        }
        reckons(4, LEAST, 2, -(1 << 30));
        reckons(4, LEAST, MOST, -1);
        reckons(4, MOST, LEAST, 0);
    }

    private static void none() {
        C.part("'NONE is -1'");
        PhiHall x = new PhiHall();
        print(x, 0, 5);
        x.form();
        C.is("where a RETURN goes", x.ofPlace(0, 3), -1);
        C.is("the BLOCK of VALUE 0", x.ofValue(0, 1), -1);
        C.is("the VARIABLE of a PRINT", x.ofValue(6, 2), -1);
        C.is("the VALUE that a number is", x.argument(6, 0), -1);
        C.is("the VALUE of an END of a number", x.ofPlace(0, 6), -1);
    }

    private static void setsAreSums() {
        C.part("'Sets are told as the sum of 2^k for each k in them'");
        PhiHall x = withBlocks(10);
        for (int block = 0; block < 9; block++) {
            jump(x, block, block + 1);
        }
        C.is("all BLOCKS", x.ofBlock(0, 3), 1023);
        C.is("the last one alone", x.ofBlock(9, 3), 512);
        C.is("no FRONTIER", x.ofBlock(9, 4), 0);
        C.is("no VARIABLE", x.ofBlock(0, 5), 0);
        branch(x, 9, V5, 9, 1);
        C.is("the last one and the first one", x.ofBlock(9, 4), 512 + 2);
        C.is("VARIABLE 5 alone", x.ofBlock(0, 5), 32);
        give(x, 9, V0);
        C.is("VARIABLE 0 alone", x.ofBlock(0, 5), 1);
        store(x, 9, V1, V2);
        store(x, 9, V3, V4);
        print(x, 9, V5);
        C.is("all VARIABLES", x.ofBlock(0, 5), 63);
    }

    // ---- 1. Blocks

    private static void tenBlocks() {
        C.part("'At most 10 BLOCKS, numbered from 0 as they are added'");
        PhiHall x = new PhiHall();
        for (int k = 1; k <= 9; k++) {
            C.is("block()", x.block(), k);
            C.is("many(0)", x.many(0), k + 1);
        }
        jump(x, 0, 9);
        give(x, 9, 42);
        C.is("the BLOCK 9 is run", ran(x, 0, 0), 42);
        C.is("and so in the FORM", ranForm(x, 0, 0), 42);
    }

    private static void theBlockZero() {
        C.part("'the BLOCK 0 is there from the first, and is where all begins'");
        PhiHall x = new PhiHall();
        C.is("many(0)", x.many(0), 1);
        C.is("it is REACHED", x.ofBlock(0, 2), 1);
        C.is("block() is the next one", x.block(), 1);
        give(x, 1, 5);
        C.is("the BLOCK 1 is not REACHED", x.ofBlock(1, 2), 0);
        C.is("nor run", ran(x, 0, 0), 0);
        jump(x, 0, 1);
        C.is("now it is", ran(x, 0, 0), 5);
    }

    private static void variables() {
        C.part("'VARIABLES are 0 to 5'");
        for (int d = 0; d <= 5; d++) {
            for (int kind = 0; kind <= 6; kind++) {
                PhiHall x = new PhiHall();
                boolean hasTwo = kind >= 1 && kind <= 5;
                int[] want = {7, 7 + 2, 7 - 2, 7 * 2, 7 / 2, 0, 11};
                store(x, 0, 7, 11);
                x.line(0, kind, d, 7, hasTwo ? 2 : 0);
                give(x, 0, 100 + d);
                C.is("kind " + kind + " of VARIABLE " + d, ran(x, 88, 88), want[kind]);
                C.is("that in the FORM", ranForm(x, 88, 88), want[kind]);
            }
        }
    }

    private static void operands() {
        C.part("'a number from -99 to 99, or 100 to 105 for the VARIABLES 0 to 5'");
        int[][] all = {{-99, -99}, {-1, -1}, {0, 0}, {1, 1}, {99, 99}, {100, 1000}, {101, 1001}, {102, 12}, {103, 13}, {104, 14}, {105, 15}};
        for (int[] a : all) {
            PhiHall x = new PhiHall();
            for (int d = 2; d <= 5; d++) {
                put(x, 0, d, 10 + d);
            }
            print(x, 0, a[0]);
            store(x, 0, 3, a[0]);
            give(x, 0, a[0]);
            C.is("RETURN " + a[0], ran(x, 1000, 1001), a[1]);
            C.is("PRINT " + a[0], x.printed(0), a[1]);
            C.is("STORE of " + a[0], x.cell(3), a[1]);
            C.is("RETURN " + a[0] + " of the FORM", ranForm(x, 1000, 1001), a[1]);
            C.is("PRINT " + a[0] + " of the FORM", x.printed(0), a[1]);
            C.is("STORE of " + a[0] + " of the FORM", x.cell(3), a[1]);
        }
        PhiHall y = new PhiHall();
        print(y, 0, 99);
        print(y, 0, 100);
        print(y, 0, 105);
        y.form();
        C.is("99 is a number", y.number(6, 0), 99);
        C.is("100 is what VARIABLE 0 holds", y.argument(7, 0), 0);
        C.is("105 is what VARIABLE 5 holds", y.argument(8, 0), 5);
    }

    private static void eightLines() {
        C.part("'Each BLOCK has at most 8 LINES'");
        PhiHall x = withBlocks(2);
        jump(x, 0, 1);
        for (int block = 0; block <= 1; block++) {
            for (int k = 0; k < 8; k++) {
                C.is("line of BLOCK " + block, x.line(block, 8, 0, 10 * block + k, 0), k);
                C.is("how many", x.ofBlock(block, 0), k + 1);
            }
        }
        C.is("many(2)", x.many(2), 16);
        x.run(0, 0);
        for (int k = 0; k < 16; k++) {
            C.is("printed(" + k + ")", x.printed(k), k < 8 ? k : k + 2);
        }
        x.form();
        x.runForm(0, 0);
        C.is("how many are printed by the FORM", x.ofRun(2), 16);
        C.is("the last one", x.printed(15), 17);
    }

    private static void lessThan() {
        C.part("'1 if p is below q and otherwise 0'");
        int[][] all = {{4, 5, 1}, {5, 5, 0}, {6, 5, 0}, {-1, 0, 1}, {0, -1, 0}, {0, 0, 0}, {-99, 99, 1}, {99, -99, 0}};
        for (int[] a : all) {
            reckons(5, a[0], a[1], a[2]);
            isConstant(5, a[0], a[1], a[2]);
        }
        reckons(5, LEAST, MOST, 1);
        reckons(5, MOST, LEAST, 0);
        reckons(5, LEAST, LEAST, 0);
        reckons(5, MOST - 1, MOST, 1);
    }

    private static void trapOfADiv() {
        C.part("'(a TRAP, if q is 0)'");
        for (int q = -1; q <= 1; q++) {
            PhiHall x = reckoning(4);
            C.is("run, q is " + q, x.run(9, q), q == 0 ? 1 : 0);
            C.is("RETURNED", x.ofRun(1), 9 * q);
            x.form();
            C.is("runForm, q is " + q, x.runForm(9, q), q == 0 ? 1 : 0);
            C.is("RETURNED", x.ofRun(1), 9 * q);
        }
        C.is("0 / 0", reckoning(4).run(0, 0), 1);
        C.is("0 / 1", reckoning(4).run(0, 1), 0);
        PhiHall y = new PhiHall();
        print(y, 0, 1);
        y.line(0, 4, 2, 5, V0);
        print(y, 0, 2);
        store(y, 0, 0, 3);
        give(y, 0, 4);
        for (int k = 0; k < 2; k++) {
            C.is("it ends by the TRAP", k == 0 ? y.run(0, 0) : y.runForm(0, 0), 1);
            C.is("what was PRINTED ahead stays", y.ofRun(2), 1);
            C.is("nothing behind is done", y.cell(0), 0);
            C.is("no END is gone through", y.ofRun(4), 0);
            C.is("COST", y.ofRun(3), 9);
            y.form();
        }
    }

    private static void cells() {
        C.part("'what is left of p divided by 8, and 8 more, if that is below 0'");
        int[][] all = {{0, 0}, {7, 7}, {8, 0}, {9, 1}, {15, 7}, {16, 0}, {-1, 7}, {-7, 1}, {-8, 0}, {-9, 7}, {-15, 1}, {-16, 0}, {99, 3}, {-99, 5},
            {MOST, 7}, {MOST - 7, 0}, {LEAST, 0}, {LEAST + 1, 1}};
        for (int[] a : all) {
            PhiHall x = new PhiHall();
            store(x, 0, V0, 50);
            load(x, 0, 2, a[1]);
            load(x, 0, 3, V0);
            x.line(0, 3, 3, V3, 2);
            x.line(0, 1, 2, V2, V3);
            give(x, 0, V2);
            C.is("STORE and LOAD of " + a[0], ran(x, a[0], 0), 150);
            C.is("those in the FORM", ranForm(x, a[0], 0), 150);
            for (int cell = 0; cell < 8; cell++) {
                C.is("STORE to " + a[0] + ", cell(" + cell + ")", x.cell(cell), cell == a[1] ? 50 : 0);
            }
        }
    }

    private static void eightCells() {
        C.part("'There are 8 CELLS'");
        PhiHall x = new PhiHall();
        for (int cell = 0; cell < 8; cell++) {
            store(x, 0, cell, 20 + cell);
        }
        x.form();
        for (int k = 0; k < 2; k++) {
            C.is("run or runForm", k == 0 ? x.run(0, 0) : x.runForm(0, 0), 0);
            for (int cell = 0; cell < 8; cell++) {
                C.is("cell(" + cell + ")", x.cell(cell), 20 + cell);
            }
        }
    }

    private static void returnZero() {
        C.part("'RETURN 0, if none is told'");
        PhiHall x = new PhiHall();
        C.is("kind of the END of the BLOCK 0", x.ofBlock(0, 1), 0);
        C.is("RETURNED", ran(x, 7, 7), 0);
        C.is("RETURNED by the FORM", ranForm(x, 7, 7), 0);
        C.is("it is a number in the FORM", x.ofPlace(0, 6), NONE);
        C.is("that number", x.ofPlace(0, 7), 0);
        int b = x.block();
        C.is("kind of the END of the BLOCK 1", x.ofBlock(b, 1), 0);
        C.is("kind of that before, as one is told", x.end(b, 1, 0, 1, 0), 0);
        C.is("kind of that before, as another is told", x.end(b, 2, 0, 1, 1), 1);
        C.is("kind of that before, as another is told", x.end(b, 0, 0, 0, 0), 2);
    }

    private static void ifAboveZero() {
        C.part("'to one BLOCK, if p is above 0, otherwise to another one'");
        int[] all = {1, 0, -1, 99, -99, MOST, LEAST};
        for (int p : all) {
            PhiHall x = withBlocks(3);
            branch(x, 0, V0, 1, 2);
            give(x, 1, 11);
            give(x, 2, 22);
            C.is("IF of " + p, ran(x, p, 0), p > 0 ? 11 : 22);
            C.is("IF of " + p + " in the FORM", ranForm(x, p, 0), p > 0 ? 11 : 22);
            if (p >= -99 && p <= 99) {
                branch(x, 0, p, 1, 2);
                x.form();
                C.is("pass(1), IF of the number " + p, x.pass(1), 1);
                C.is("where its JUMP goes", x.ofPlace(0, 3), p > 0 ? 1 : 2);
            }
        }
    }

    private static void ifToTheSame() {
        C.part("'(it may be the same)'");
        PhiHall x = withBlocks(2);
        branch(x, 0, V0, 1, 1);
        give(x, 1, 6);
        C.is("above 0", ran(x, 1, 0), 6);
        C.is("not above 0", ran(x, 0, 0), 6);
        x.form();
        C.is("there are two EDGES", x.ofPlace(1, 5), 2);
        C.is("it may be itself", x.end(1, 2, 1, 1, 1), 0);
    }

    private static void noEndToZero() {
        C.part("'No END goes to the BLOCK 0'");
        PhiHall x = full();
        x.form();
        C.is("EDGES to the BLOCK 0", x.ofPlace(0, 5), 0);
        for (int block = 0; block < 10; block++) {
            C.is("what goes to 0 is in no FRONTIER", x.ofBlock(block, 4) & 1, 0);
            C.holds("END of " + block, x.ofPlace(block, 3) != 0 && x.ofPlace(block, 4) != 0);
        }
    }

    // ---- 2. Runs

    private static void beginnings() {
        C.part("'with these the VARIABLES 0 and 1 begin; all others, and all CELLS, with 0'");
        PhiHall x = new PhiHall();
        for (int v = 0; v < 6; v++) {
            print(x, 0, 100 + v);
        }
        store(x, 0, 4, V0);
        put(x, 0, 5, 9);
        x.form();
        for (int k = 0; k < 4; k++) {
            C.is("run, twice, and runForm, twice", k < 2 ? x.run(LEAST, MOST) : x.runForm(LEAST, MOST), 0);
            for (int v = 0; v < 6; v++) {
                C.is("VARIABLE " + v, x.printed(v), v == 0 ? LEAST : v == 1 ? MOST : 0);
            }
        }
        PhiHall y = new PhiHall();
        load(y, 0, 2, 4);
        store(y, 0, 4, 5);
        give(y, 0, V2);
        y.form();
        for (int k = 0; k < 4; k++) {
            C.is("run, twice, and runForm, twice", k < 2 ? y.run(1, 1) : y.runForm(1, 1), 0);
            C.is("the CELL held", y.ofRun(1), 0);
            C.is("it holds", y.cell(4), 5);
        }
    }

    /** Goes through v0 + 2 ENDS, if v0 is above 0: as the last of these RETURNS, it PRINTS 3. */
    private static PhiHall counting() {
        PhiHall x = withBlocks(3);
        jump(x, 0, 1);
        x.line(1, 1, 2, V2, 1);
        x.line(1, 5, 3, V2, V0);
        branch(x, 1, V3, 1, 2);
        print(x, 2, 3);
        x.line(2, 4, 4, V2, V1);
        give(x, 2, V2);
        return x;
    }

    private static void endOf301() {
        C.part("'as the 301st END would be gone through (it is CUT then)'");
        PhiHall x = counting();
        x.form();
        for (int k = 0; k < 2; k++) {
            C.is("the 300th END is a RETURN", k == 0 ? x.run(298, 1) : x.runForm(298, 1), 0);
            C.is("RETURNED", x.ofRun(1), 298);
            C.is("ENDS", x.ofRun(4), 300);
            C.is("COST", x.ofRun(3), 1 + 298 * 4 + 1 + 8);
            C.is("the 301st END would be a RETURN", k == 0 ? x.run(299, 1) : x.runForm(299, 1), 2);
            C.is("ofRun(0)", x.ofRun(0), 2);
            C.is("RETURNED", x.ofRun(1), 0);
            C.is("ENDS", x.ofRun(4), 300);
            C.is("LINES ahead of it are done", x.ofRun(2), 1);
            C.is("COST with these", x.ofRun(3), 1 + 299 * 4 + 1 + 8);
            C.is("a TRAP ahead of it", k == 0 ? x.run(299, 0) : x.runForm(299, 0), 1);
            C.is("ENDS", x.ofRun(4), 300);
            C.is("no LINE behind it is done", k == 0 ? x.run(300, 1) : x.runForm(300, 1), 2);
            C.is("how many are PRINTED", x.ofRun(2), 0);
            C.is("ENDS", x.ofRun(4), 300);
            C.is("COST without that of the IF", x.ofRun(3), 1 + 299 * 4 + 2);
        }
        PhiHall y = withBlocks(2);
        jump(y, 0, 1);
        print(y, 1, 5);
        jump(y, 1, 1);
        y.form();
        for (int k = 0; k < 2; k++) {
            C.is("what never ends", k == 0 ? y.run(0, 0) : y.runForm(0, 0), 2);
            C.is("COST: 300 JUMPS, 300 PRINTS", y.ofRun(3), 600);
            C.is("how many are PRINTED", y.ofRun(2), 300);
        }
    }

    private static void costOf(String call, int want, Consumer<PhiHall> teller) {
        PhiHall x = withBlocks(3);
        teller.accept(x);
        x.run(1, 2);
        C.is(call + " COSTS", x.ofRun(3), want);
        x.form();
        x.runForm(1, 2);
        C.is(call + " COSTS in the FORM", x.ofRun(3), want);
        C.is(call + ", wouldCost(0, ..)", x.wouldCost(0, 1, 2), want);
    }

    private static void costs() {
        C.part("'COST: PUT 0; ADD, SUB, LESS, PRINT 1; MUL 3; LOAD and STORE 4; DIV 8 (also one that is a TRAP); an IF 2, a JUMP 1, a RETURN 0'");
        int[] want = {0, 1, 1, 3, 8, 1, 4, 4, 1};
        for (int kind = 0; kind <= 8; kind++) {
            int k = kind;
            boolean hasTwo = kind >= 1 && kind <= 5 || kind == 7;
            costOf("a LINE of kind " + kind, want[kind], x -> x.line(0, k, 0, V0, hasTwo ? V1 : 0));
        }
        costOf("a DIV that is a TRAP", 8, x -> x.line(0, 4, 2, V0, V2));
        costOf("a RETURN", 0, x -> give(x, 0, V1));
        costOf("a JUMP", 1, x -> jump(x, 0, 2));
        costOf("an IF", 2, x -> branch(x, 0, V0, 1, 2));
        costOf("an IF the other way", 2, x -> branch(x, 0, V5, 1, 2));
        costOf("an IF of a number to the same", 2, x -> branch(x, 0, 7, 1, 1));
    }

    private static void phisCostNothing() {
        C.part("'PHIS cost nothing'");
        PhiHall x = counting();
        x.form();
        C.is("PHIS", x.many(6), 1);
        for (int a = 0; a < 5; a++) {
            x.run(a, 1);
            int cost = x.ofRun(3);
            x.runForm(a, 1);
            C.is("COST", x.ofRun(3), cost);
        }
    }

    // ---- 3. The FORM

    private static void reached() {
        C.part("'REACHED are the BLOCK 0, and to which the END of a REACHED one goes'");
        PhiHall x = withBlocks(5);
        jump(x, 1, 2);
        jump(x, 3, 3);
        for (int block = 0; block < 5; block++) {
            C.is("of a BLOCK 0 that RETURNS, " + block, x.ofBlock(block, 2), block == 0 ? 1 : 0);
        }
        C.is("many(1)", x.many(1), 1);
        branch(x, 0, 1, 4, 1);
        for (int block = 0; block < 5; block++) {
            C.is("both ways of an IF, also of a number, " + block, x.ofBlock(block, 2), block == 3 ? 0 : 1);
        }
        C.is("many(1)", x.many(1), 4);
        C.is("what is not REACHED DOMINATES nothing, not even itself", x.ofBlock(3, 3), 0);
        C.is("and has no FRONTIER", x.ofBlock(3, 4), 0);
        print(x, 3, V1);
        C.is("and nothing is WANTED at it", x.ofBlock(3, 5), 0);
        C.is("its LINES are told all the same", x.ofBlock(3, 0), 1);
        C.is("and its END", x.ofBlock(3, 1), 1);
        for (int block = 0; block < 9; block++) {
            if (x.many(0) < 10) {
                x.block();
            }
            jump(x, block, block + 1);
        }
        C.is("all ten", x.many(1), 10);
    }

    private static void dominatesItself() {
        C.part("'(a BLOCK DOMINATES itself)'");
        PhiHall x = full();
        C.is("BLOCK 0", x.ofBlock(0, 3), 1023);
        for (int block = 1; block < 10; block++) {
            C.is("BLOCK " + block + " and no other one", x.ofBlock(block, 3), 1 << block);
        }
        C.is("a BLOCK alone", new PhiHall().ofBlock(0, 3), 1);
    }

    private static void frontier() {
        C.part("'of which some BLOCK that goes to B is DOMINATED by A, while B is not, or is A'");
        PhiHall x = withBlocks(4);
        jump(x, 0, 1);
        branch(x, 1, V0, 2, 3);
        jump(x, 2, 1);
        C.is("of 0, which DOMINATES all", x.ofBlock(0, 4), 0);
        C.is("of 1, to which comes 2, which it DOMINATES: itself", x.ofBlock(1, 4), 0b0010);
        C.is("of 2", x.ofBlock(2, 4), 0b0010);
        C.is("of 3, which goes nowhere", x.ofBlock(3, 4), 0);
        branch(x, 3, V0, 3, 2);
        C.is("of 3, which goes to itself", x.ofBlock(3, 4), 0b1100);
        C.is("of 1: not 2, which it DOMINATES", x.ofBlock(1, 4), 0b0010);
        PhiHall y = withBlocks(4);
        jump(y, 0, 1);
        jump(y, 2, 1);
        jump(y, 1, 3);
        C.is("of 2, which is not REACHED", y.ofBlock(2, 4), 0);
        C.is("of 0: 1 is DOMINATED by it", y.ofBlock(0, 4), 0);
    }

    private static void wanted() {
        C.part("'on which it is an OPERAND (of a LINE or END) ahead of each LINE that sets it'");
        PhiHall x = withBlocks(2);
        jump(x, 0, 1);
        x.line(1, 1, 2, V2, 1);
        C.is("in the very LINE that sets it", x.ofBlock(1, 5), 0b000100);
        x.cut(1);
        put(x, 1, 2, 1);
        print(x, 1, V2);
        C.is("behind the LINE that sets it", x.ofBlock(1, 5), 0);
        x.cut(1);
        x.cut(1);
        print(x, 1, V2);
        put(x, 1, 2, 1);
        C.is("ahead of the LINE that sets it", x.ofBlock(1, 5), 0b000100);
        C.is("and at the BLOCK ahead of that", x.ofBlock(0, 5), 0b000100);
        load(x, 0, 2, 1);
        C.is("which sets it", x.ofBlock(0, 5), 0);
        x.cut(0);
        give(x, 1, V5);
        C.is("by a RETURN", x.ofBlock(0, 5), 0b100100);
        branch(x, 1, V4, 1, 1);
        C.is("by an IF", x.ofBlock(0, 5), 0b010100);
        store(x, 1, V0, V1);
        C.is("by both OPERANDS", x.ofBlock(0, 5), 0b010111);
        x.line(0, 8, 0, 5, 0);
        C.is("a number is no VARIABLE", x.ofBlock(0, 5), 0b010111);
    }

    private static void wantedFarAway() {
        C.part("'if there is a way from its beginning', as long as there can be, against the numbers");
        int[] way = {0, 9, 8, 7, 6, 5, 4, 3, 2, 1};
        for (int up = 0; up < 2; up++) {
            PhiHall x = withBlocks(10);
            for (int k = 0; k < 9; k++) {
                jump(x, up == 1 ? k : way[k], up == 1 ? k + 1 : way[k + 1]);
            }
            give(x, up == 1 ? 9 : 1, V3);
            C.is("WANTED at the BLOCK 0", x.ofBlock(0, 5), 0b001000);
            C.is("all are REACHED", x.many(1), 10);
            C.is("BLOCK 0 DOMINATES all", x.ofBlock(0, 3), 1023);
        }
    }

    private static void phisStand() {
        C.part("'or of a BLOCK that has, or would have (but is not WANTED), a PHI of it'");
        PhiHall x = withBlocks(6);
        branch(x, 0, V0, 1, 5);
        branch(x, 1, V1, 2, 3);
        put(x, 2, 2, 7);
        jump(x, 2, 4);
        jump(x, 3, 4);
        jump(x, 4, 5);
        print(x, 5, V2);
        x.form();
        C.is("has one", x.many(6), 2);
        C.is("in 4", x.ofValue(6, 1), 4);
        C.is("in 5, by that of 4", x.ofValue(7, 1), 5);
        C.is("which is its second ARGUMENT", x.argument(7, 1), 6);
        put(x, 4, 2, 1);
        x.cut(2);
        put(x, 2, 3, 7);
        x.line(5, 8, 0, V3, 0);
        x.cut(4);
        put(x, 4, 3, V5);
        x.form();
        C.is("would have one in 4, but v3 is not WANTED there", x.many(6), 1);
        C.is("that in 5", x.ofValue(6, 1), 5);
        C.is("of v3", x.ofValue(6, 2), 3);
    }

    /** As above, but the BLOCK that would have one does not set it: the PHI behind it is there by that alone. */
    private static void phiByOneThatWouldBe() {
        C.part("'would have (but is not WANTED), a PHI of it', which is all that puts one behind it");
        PhiHall x = withBlocks(8);
        branch(x, 0, V0, 1, 2);
        put(x, 1, 2, 7);
        jump(x, 1, 3);
        jump(x, 2, 3);
        branch(x, 3, V1, 4, 5);
        put(x, 4, 2, V1);
        jump(x, 4, 6);
        put(x, 5, 2, V0);
        jump(x, 5, 6);
        print(x, 6, V2);
        x.form();
        C.is("none in 3, where it is not WANTED", x.ofPlace(3, 1), 0);
        C.is("one in 6", x.ofValue(6, 1), 6);
        C.is("PHIS", x.many(6), 1);
        jump(x, 2, 6);
        x.form();
        C.is("one in 6 with three EDGES", x.ofValue(6, 3), 3);
        C.is("from 2 what v2 began with", x.argument(6, 0), 2);
    }

    private static void valuesAreNumbered() {
        C.part("'VALUES are numbered from 0: 0 to 5 are what the VARIABLES begin with' .. '(PUT is none)'");
        PhiHall x = new PhiHall();
        C.is("form() of nothing", x.form(), 6);
        for (int value = 0; value < 6; value++) {
            C.is("KIND of VALUE " + value, x.ofValue(value, 0), 10);
        }
        for (int k = 0; k < 8; k++) {
            put(x, 0, k % 6, k);
        }
        C.is("form() of 8 PUTS", x.form(), 6);
        for (int kind = 1; kind <= 8; kind++) {
            x.cut(0);
        }
        for (int kind = 1; kind <= 8; kind++) {
            x.line(0, kind, 0, 1, kind <= 5 || kind == 7 ? 1 : 0);
        }
        C.is("form() of one of each other KIND", x.form(), 14);
        for (int kind = 1; kind <= 8; kind++) {
            C.is("KIND of VALUE " + (kind + 5), x.ofValue(kind + 5, 0), kind);
            C.is("ARGUMENTS of it", x.ofValue(kind + 5, 3), kind <= 5 || kind == 7 ? 2 : 1);
        }
        PhiHall y = withBlocks(3);
        print(y, 1, 1);
        print(y, 2, 2);
        jump(y, 0, 2);
        C.is("form() of two REACHED", y.form(), 7);
        C.is("of BLOCK 2", y.ofValue(6, 1), 2);
    }

    private static void fullForm() {
        C.part("a FORM of as much as there can be");
        PhiHall x = full();
        C.is("form()", x.form(), 6 + 80 + 54);
        C.is("VALUES in BLOCKS", x.many(5), 134);
        C.is("PHIS", x.many(6), 54);
        C.is("EDGES", x.many(8), 20);
        for (int value = 0; value < 140; value++) {
            int block = value / 14;
            int k = value % 14;
            C.is("the BLOCK of VALUE " + value, x.ofValue(value, 1), value < 6 ? NONE : block);
            if (block > 0) {
                C.is("its place", x.valueAt(block, k), value);
                C.is("the VARIABLE of a PHI", x.ofValue(value, 2), k < 6 ? k : NONE);
                C.is("ARGUMENTS of a PHI", x.ofValue(value, 3), k < 6 ? x.ofPlace(block, 5) : 2);
            }
        }
        int arguments = 0;
        for (int value = 0; value < 140; value++) {
            arguments += x.ofValue(value, 3);
        }
        C.is("ARGUMENTS of all", arguments, 20 * 6 + 80 * 2);
        for (int a = -2; a <= 2; a++) {
            for (int b = -2; b <= 2; b++) {
                C.holds("isAlike " + a + ", " + b, x.isAlike(a, b));
            }
        }
        for (int pass = 1; pass <= 4; pass++) {
            x.pass(pass);
            C.holds("isAlike behind pass " + pass, x.isAlike(3, -2) && x.isAlike(-5, 7));
        }
    }

    private static void madeAnew() {
        C.part("Promise 7, 'Makes the FORM of what is told, in place of that before', of as much as there can be");
        PhiHall x = full();
        x.form();
        List<Long> first = Picture.of(x);
        for (int k = 1; k <= 3; k++) {
            x.pass(k);
            C.is("form() again", x.form(), 140);
            C.same("each answer", Picture.of(x), first);
        }
    }

    /** Each of two DOMINATES the other one, once. */
    private static void toldAnew() {
        C.part("'A DOMINATES B, if each way from the BLOCK 0 to B goes through A', told anew");
        PhiHall x = withBlocks(3);
        x.line(0, 1, 2, V0, 1);
        x.line(1, 1, 3, V0, 1);
        x.line(2, 1, 4, V0, 1);
        print(x, 2, V4);
        jump(x, 0, 1);
        jump(x, 1, 2);
        x.form();
        x.pass(2);
        C.is("1 DOMINATES", x.ofBlock(1, 3), 0b110);
        C.is("2 DOMINATES", x.ofBlock(2, 3), 0b100);
        jump(x, 0, 2);
        jump(x, 2, 1);
        give(x, 1, V4);
        C.is("1 DOMINATES", x.ofBlock(1, 3), 0b010);
        C.is("2 DOMINATES", x.ofBlock(2, 3), 0b110);
        x.form();
        C.is("RETURN of 1: the ADD of 2", x.ofPlace(1, 6), 8);
        C.is("pass(2): the ADDS of 1 and 2", x.pass(2), 2);
        C.is("RETURN of 1: the ADD of 0", x.ofPlace(1, 6), 6);
        C.is("PRINT of 2: the ADD of 0", x.argument(9, 0), 6);
    }

    private static void edgesInOrder() {
        C.part("'EDGES come from REACHED BLOCKS alone, and to a BLOCK are in the order of the BLOCKS from which they come'");
        PhiHall x = withBlocks(10);
        for (int block = 1; block < 9; block++) {
            branch(x, block, V0, 9, block + 1);
        }
        branch(x, 0, V0, 9, 2);
        x.form();
        C.is("EDGES to 9: not from 1, two from 8", x.ofPlace(9, 5), 9);
        for (int k = 0; k < 9; k++) {
            int[] from = {0, 2, 3, 4, 5, 6, 7, 8, 8};
            C.is("edge(9, " + k + ")", x.edge(9, k), from[k]);
        }
        C.is("EDGES to 2: not from 1", x.ofPlace(2, 5), 1);
        C.is("BLOCK 1 is not THERE", x.ofPlace(1, 0), 0);
        C.is("EDGES", x.many(8), 16);
    }

    private static void twoEdgesOfAnIf() {
        C.part("'of an IF with both ways to the same BLOCK there are two, the first one that for above 0'");
        PhiHall x = withBlocks(4);
        branch(x, 0, V0, 2, 1);
        put(x, 1, 2, 7);
        branch(x, 1, V1, 2, 2);
        print(x, 2, V2);
        jump(x, 2, 3);
        x.form();
        C.is("EDGES to 2", x.ofPlace(2, 5), 3);
        C.is("the first one", x.edge(2, 0), 0);
        C.is("the second one", x.edge(2, 1), 1);
        C.is("the third one", x.edge(2, 2), 1);
        C.is("ARGUMENTS of the PHI", x.ofValue(6, 3), 3);
        C.is("the second one", x.number(6, 1), 7);
        C.is("the third one", x.number(6, 2), 7);
        x.runForm(0, 1);
        C.is("as v1 is above 0", x.printed(0), 7);
        x.runForm(0, 0);
        C.is("as v1 is not", x.printed(0), 7);
    }

    private static void thereAndReached() {
        C.part("'Each BLOCK that is REACHED is THERE'");
        PhiHall x = withBlocks(3);
        x.form();
        C.is("BLOCK 0", x.ofPlace(0, 0), 1);
        C.is("BLOCK 1", x.ofPlace(1, 0), 0);
        C.is("BLOCKS that are THERE", x.many(7), 1);
        jump(x, 0, 2);
        C.is("told later", x.ofPlace(2, 0), 0);
        x.form();
        C.is("BLOCK 2, made anew", x.ofPlace(2, 0), 1);
    }

    private static void phisAllAtOnce() {
        C.part("'PHIS of a BLOCK are reckoned all at once as it is come to, with what was held ahead'");
        PhiHall x = withBlocks(3);
        for (int v = 2; v < 6; v++) {
            put(x, 0, v, v);
        }
        jump(x, 0, 1);
        for (int v = 2; v < 6; v++) {
            print(x, 1, 100 + v);
        }
        put(x, 1, 1, V2);
        put(x, 1, 2, V3);
        put(x, 1, 3, V1);
        x.line(1, 2, 0, V0, 1);
        branch(x, 1, V0, 1, 2);
        x.form();
        C.is("PHIS: v4 and v5 are not set in the ring", x.many(6), 3);
        x.runForm(3, 0);
        int[] want = {2, 3, 4, 5, 3, 2, 4, 5, 2, 3, 4, 5};
        for (int k = 0; k < want.length; k++) {
            C.is("printed(" + k + ")", x.printed(k), want[k]);
        }
    }

    // ---- 4. Passes

    private static void numberOrMany() {
        C.part("'MANY, if one is (and none is UNKNOWN), or, of a DIV, if the second one is 0; otherwise the number'");
        for (int kind = 1; kind <= 5; kind++) {
            int[] want = {5 + 3, 5 - 3, 5 * 3, 5 / 3, 0};
            isConstant(kind, 5, 3, want[kind - 1]);
            int[][] many = {{V0, 0}, {0, V0}, {V1, V1}};
            for (int[] m : many) {
                PhiHall x = new PhiHall();
                x.line(0, kind, 2, m[0], m[1]);
                print(x, 0, V2);
                x.form();
                C.is("pass(1) of kind " + kind + " of " + m[0] + " and " + m[1], x.pass(1), 0);
                C.is("it is MANY", x.argument(7, 0), 6);
            }
        }
        isConstant(4, 0, 5, 0);
        isConstant(4, 5, 1, 5);
        isConstant(4, 5, -1, -5);
        PhiHall y = withBlocks(3);
        y.line(0, 4, 2, 5, 0);
        branch(y, 0, V2, 1, 2);
        y.form();
        C.is("pass(1) of a DIV by 0: MANY", y.pass(1), 0);
        C.is("so its IF stays", y.ofPlace(0, 2), 2);
        PhiHall z = withBlocks(3);
        z.line(0, 4, 2, 5, V5);
        branch(z, 0, V2, 1, 2);
        z.form();
        C.is("pass(1) of a DIV by VALUE 5, which is 0", z.pass(1), 0);
        C.is("that is 0 then", z.argument(6, 1), NONE);
    }

    private static void beganWith() {
        C.part("'VALUES 0 and 1, and LOADS are MANY; VALUES 2 to 5 are 0'");
        for (int v = 0; v <= 5; v++) {
            PhiHall x = withBlocks(3);
            branch(x, 0, 100 + v, 1, 2);
            print(x, 2, 100 + v);
            x.form();
            C.is("pass(1), IF of VALUE " + v, x.pass(1), v < 2 ? 0 : 1);
            C.is("where it goes", x.ofPlace(0, 3), v < 2 ? 1 : 2);
            C.is("where one is an ARGUMENT, that is 0 from then on", x.argument(6, 0), v < 2 ? v : NONE);
            C.is("uses of it", x.ofValue(v, 4), v < 2 ? 2 : 0);
            C.is("VALUES that were made", x.many(4), 7);
        }
        PhiHall y = withBlocks(3);
        load(y, 0, 2, 1);
        branch(y, 0, V2, 1, 2);
        y.form();
        C.is("pass(1), IF of a LOAD", y.pass(1), 0);
    }

    private static void ifOfANumber() {
        C.part("'an IF of a number only to that which it takes'");
        for (int p = -1; p <= 1; p++) {
            PhiHall x = withBlocks(4);
            x.line(0, 1, 2, p, 0);
            branch(x, 0, V2, 1, 2);
            print(x, 1, 1);
            jump(x, 1, 3);
            print(x, 2, 2);
            print(x, 2, 3);
            jump(x, 2, 3);
            x.form();
            C.is("pass(1): ADD, a BLOCK and its PRINTS", x.pass(1), p > 0 ? 4 : 3);
            C.is("KIND of the END", x.ofPlace(0, 2), 1);
            C.is("it goes to", x.ofPlace(0, 3), p > 0 ? 1 : 2);
            C.is("and nowhere else", x.ofPlace(0, 4), NONE);
            C.is("EDGES to 3", x.ofPlace(3, 5), 1);
            C.is("EDGE to 3", x.edge(3, 0), p > 0 ? 1 : 2);
            C.is("VALUE of the END", x.ofPlace(0, 6), NONE);
            C.is("number of the END", x.ofPlace(0, 7), 0);
        }
    }

    private static void edgesThatAreNotThere() {
        C.part("'and so are EDGES that are not there any more (and the ARGUMENTS of PHIS for them)'");
        for (int p = -1; p <= 1; p++) {
            PhiHall x = withBlocks(4);
            put(x, 0, 2, 5);
            branch(x, 0, p, p > 0 ? 1 : 3, p > 0 ? 3 : 1);
            put(x, 1, 2, 6);
            branch(x, 1, V0, 3, 2);
            put(x, 2, 2, 7);
            jump(x, 2, 3);
            print(x, 3, V2);
            x.form();
            C.is("EDGES to 3", x.ofPlace(3, 5), 3);
            C.is("first ARGUMENT of its PHI", x.number(6, 0), 5);
            C.is("pass(1), IF of " + p, x.pass(1), 0);
            C.is("EDGES to 3 then", x.ofPlace(3, 5), 2);
            C.is("the first one", x.edge(3, 0), 1);
            C.is("the second one", x.edge(3, 1), 2);
            C.is("ARGUMENTS of its PHI", x.ofValue(6, 3), 2);
            C.is("the first one", x.number(6, 0), 6);
            C.is("the second one", x.number(6, 1), 7);
            C.is("END of 0", x.ofPlace(0, 3), 1);
            C.is("EDGES", x.many(8), 4);
            x.runForm(0, 0);
            C.is("PRINTED", x.printed(0), 7);
        }
    }

    private static void endsOfWhatIsGone() {
        C.part("'BLOCKS that were not come to are GONE, with all their VALUES', and what their ENDS had as ARGUMENTS");
        PhiHall x = withBlocks(4);
        x.line(0, 1, 2, V0, 1);
        branch(x, 0, 1, 1, 2);
        branch(x, 2, V2, 3, 1);
        give(x, 3, V2);
        x.form();
        C.is("uses of the ADD", x.ofValue(6, 4), 2);
        C.is("pass(1): BLOCKS 2 and 3", x.pass(1), 2);
        C.is("uses of the ADD then", x.ofValue(6, 4), 0);
        C.is("pass(3): it is NEEDED by none", x.pass(3), 1);
    }

    private static void risesAgainstTheNumbers() {
        C.part("'each is UNKNOWN as long as nothing says otherwise, then a number, then MANY', against the numbers of BLOCKS");
        PhiHall x = withBlocks(5);
        jump(x, 0, 3);
        branch(x, 3, V0, 2, 4);
        x.line(2, 1, 3, V2, 1);
        jump(x, 2, 1);
        x.line(1, 1, 2, V3, 0);
        print(x, 1, V2);
        jump(x, 1, 3);
        x.form();
        C.is("pass(1): all is MANY", x.pass(1), 0);
        C.is("the PRINT", x.argument(7, 0), 6);
        C.is("the ADD of 1", x.argument(6, 0), 8);
        C.is("the ADD of 2: the PHI", x.argument(8, 0), 9);
    }

    private static void phiOfKnown() {
        C.part("'the number, if these (UNKNOWN ones aside) are all the same number; otherwise MANY'");
        for (int other = 6; other <= 8; other++) {
            PhiHall x = diamond();
            put(x, 1, 2, 7);
            put(x, 2, 2, other);
            print(x, 3, V2);
            x.form();
            C.is("pass(1), a PHI of 7 and " + other, x.pass(1), other == 7 ? 1 : 0);
            C.is("the PRINT", x.argument(7, 0), other == 7 ? NONE : 6);
            C.is("the PRINT", x.number(7, 0), other == 7 ? 7 : 0);
            branch(x, 0, 1, 1, 2);
            x.form();
            C.is("pass(1), no way is gone along from 2", x.pass(1), 2);
            C.is("the PRINT", x.number(7, 0), 7);
        }
        PhiHall y = withBlocks(4);
        put(y, 0, 2, 5);
        jump(y, 0, 1);
        branch(y, 1, V0, 2, 3);
        y.line(2, 3, 3, V2, 1);
        put(y, 2, 2, V3);
        jump(y, 2, 1);
        give(y, 3, V2);
        y.form();
        C.is("pass(1) in a ring: UNKNOWN as long as nothing says otherwise", y.pass(1), 2);
        C.is("RETURN", y.ofPlace(3, 7), 5);
    }

    private static void unknownGoesNowhere() {
        C.part("'and of an UNKNOWN one to none'");
        PhiHall x = withBlocks(5);
        jump(x, 0, 1);
        branch(x, 1, V2, 2, 3);
        put(x, 2, 2, 1);
        jump(x, 2, 1);
        branch(x, 3, V3, 4, 1);
        put(x, 4, 3, 1);
        put(x, 4, 2, V3);
        jump(x, 4, 1);
        x.form();
        C.is("PHIS of 1: v2, v3", x.many(6), 2);
        C.is("pass(1): PHIS, BLOCKS 2 and 4 are never come to", x.pass(1), 4);
        C.is("EDGES to 1", x.ofPlace(1, 5), 2);
        C.is("END of 1", x.ofPlace(1, 3), 3);
        C.is("END of 3", x.ofPlace(3, 3), 1);
    }

    private static void storesAndPrintsStay() {
        C.part("'(STORES and PRINTS are none)'");
        PhiHall x = new PhiHall();
        store(x, 0, 1, 2);
        print(x, 0, 3);
        x.line(0, 1, 2, 4, 5);
        x.form();
        C.is("pass(1)", x.pass(1), 1);
        C.is("left", x.ofPlace(0, 1), 2);
    }

    private static void phiOfItself() {
        C.part("'all ARGUMENTS (those that are the PHI itself aside, but not all are that) are the same number or VALUE'");
        PhiHall x = withBlocks(3);
        load(x, 0, 2, 1);
        jump(x, 0, 1);
        put(x, 1, 3, V2);
        put(x, 1, 2, V3);
        print(x, 1, V2);
        branch(x, 1, V0, 1, 2);
        give(x, 2, V2);
        x.form();
        C.is("ARGUMENTS: the LOAD", x.argument(7, 0), 6);
        C.is("and itself", x.argument(7, 1), 7);
        C.is("pass(2)", x.pass(2), 1);
        C.is("the PRINT", x.argument(8, 0), 6);
        C.is("the RETURN", x.ofPlace(2, 6), 6);
        x.cut(1);
        x.cut(1);
        x.cut(1);
        load(x, 1, 2, 2);
        x.form();
        C.is("pass(2): a PHI that is needed by none is none", x.pass(2), 0);
        print(x, 2, V3);
        put(x, 1, 3, V2);
        x.form();
        C.is("pass(2): of a LOAD and another one", x.pass(2), 0);
    }

    private static void twins() {
        C.part("'is REPLACED by that one (the first of these)'");
        PhiHall x = diamond();
        for (int v = 2; v < 6; v++) {
            put(x, 1, v, 1);
            put(x, 2, v, v == 3 ? 3 : 2);
        }
        for (int v = 2; v < 6; v++) {
            print(x, 3, 100 + v);
        }
        x.form();
        C.is("pass(2): the PHIS of v4 and v5", x.pass(2), 2);
        C.is("PRINT of v2", x.argument(10, 0), 6);
        C.is("PRINT of v3", x.argument(11, 0), 7);
        C.is("PRINT of v4", x.argument(12, 0), 6);
        C.is("PRINT of v5", x.argument(13, 0), 6);
    }

    private static void inEitherOrder() {
        C.part("'of the same KIND and ARGUMENTS (of ADD and MUL in either order)'");
        for (int kind = 1; kind <= 8; kind++) {
            boolean hasTwo = kind <= 5 || kind == 7;
            PhiHall x = new PhiHall();
            int d = kind <= 6 ? 2 : 0;
            x.line(0, kind, d, V0, hasTwo ? V1 : 0);
            x.line(0, kind, d, V0, hasTwo ? V1 : 0);
            x.line(0, kind, d, hasTwo ? V1 : V0, hasTwo ? V0 : 0);
            x.form();
            C.is("pass(2) of kind " + kind, x.pass(2), kind > 5 ? 0 : kind == 1 || kind == 3 ? 2 : 1);
            C.is("the second one", x.ofValue(7, 1), kind > 5 ? 0 : NONE);
            C.is("the crossed one", x.ofValue(8, 1), kind == 1 || kind == 3 ? NONE : 0);
            C.is("the first one", x.ofValue(6, 1), 0);
        }
        PhiHall y = new PhiHall();
        for (int kind = 1; kind <= 5; kind++) {
            y.line(0, kind, 2, V0, V1);
        }
        y.line(0, 1, 2, V0, 1);
        y.line(0, 1, 2, 0, V1);
        y.line(0, 1, 2, V0, V0);
        y.form();
        C.is("pass(2) of other KINDS or ARGUMENTS", y.pass(2), 0);
    }

    private static void inEitherOrderOfNumbers() {
        C.part("'(of ADD and MUL in either order)', of a number and a VALUE, or of two numbers");
        for (int kind = 1; kind <= 5; kind++) {
            boolean isEither = kind == 1 || kind == 3;
            int[][] pairs = {{5, V0, V0, 5, 1}, {V0, 5, 5, V0, 1}, {5, 6, 6, 5, 1}, {5, V0, V0, 6, 0}, {V0, 5, 6, V0, 0}, {5, V0, 5, V1, 0},
                {5, V0, V1, 5, 0}, {5, 6, 6, 7, 0}, {5, 6, 7, 5, 0}, {0, V0, V0, V0, 0}};
            for (int[] p : pairs) {
                PhiHall x = new PhiHall();
                x.line(0, kind, 2, p[0], p[1]);
                x.line(0, kind, 3, p[2], p[3]);
                store(x, 0, 9, 8);
                x.form();
                C.is("pass(2) of kind " + kind + " of " + p[0] + ", " + p[1] + " and " + p[2] + ", " + p[3], x.pass(2), isEither ? p[4] : 0);
            }
        }
    }

    private static void dominatedOnes() {
        C.part("'as one that comes ahead in the same BLOCK, or is in one that DOMINATES this'");
        PhiHall x = diamond();
        x.line(1, 1, 2, V0, V1);
        x.line(2, 1, 2, V0, V1);
        x.line(3, 1, 2, V0, V1);
        x.form();
        C.is("pass(2): none DOMINATES another", x.pass(2), 0);
        jump(x, 0, 1);
        x.form();
        C.is("pass(2): 1 DOMINATES 3", x.pass(2), 1);
        C.is("that of 3", x.ofValue(7, 1), NONE);
        PhiHall y = withBlocks(4);
        jump(y, 0, 3);
        jump(y, 3, 2);
        jump(y, 2, 1);
        for (int block = 1; block <= 3; block++) {
            y.line(block, 1, 2, V0, V1);
            print(y, block, V2);
        }
        y.form();
        C.is("pass(2) against the numbers", y.pass(2), 2);
        C.is("the first in this order", y.argument(7, 0), 10);
        C.is("the first in this order", y.argument(9, 0), 10);
    }

    private static void needed() {
        C.part("'NEEDED are STORES, PRINTS, DIVS whose second ARGUMENT is no number, or 0'");
        for (int q = -1; q <= 1; q++) {
            PhiHall x = new PhiHall();
            x.line(0, 4, 2, V0, q);
            x.form();
            C.is("pass(3), DIV by " + q, x.pass(3), q == 0 ? 0 : 1);
        }
        int[] want = {1, 1, 1, 0, 1, 1, 0, 0};
        for (int kind = 1; kind <= 8; kind++) {
            PhiHall x = new PhiHall();
            x.line(0, kind, 0, V0, kind <= 5 || kind == 7 ? V1 : 0);
            x.form();
            C.is("pass(3) of kind " + kind, x.pass(3), want[kind - 1]);
        }
        PhiHall y = diamond();
        put(y, 1, 2, 1);
        y.line(3, 1, 3, V2, 1);
        print(y, 3, V3);
        y.form();
        C.is("pass(3): ADD and PHI, ARGUMENTS of what is NEEDED", y.pass(3), 0);
        y.cut(3);
        y.form();
        C.is("pass(3): ADD and PHI, ARGUMENTS of nothing that is", y.pass(3), 2);
    }

    private static void begunOnesStay() {
        C.part("'All others (but VALUES 0 to 5) are taken out of their BLOCKS, and are GONE'");
        PhiHall x = new PhiHall();
        x.form();
        C.is("pass(3) of nothing", x.pass(3), 0);
        for (int value = 0; value < 6; value++) {
            C.is("KIND of VALUE " + value, x.ofValue(value, 0), 10);
        }
        PhiHall y = new PhiHall();
        for (int k = 0; k < 8; k++) {
            y.line(0, 1, 2, V2, k);
        }
        y.form();
        C.is("pass(3): all 8", y.pass(3), 8);
        C.is("left", y.many(5), 0);
        C.is("VALUES that were made", y.many(4), 14);
        give(y, 0, V2);
        y.form();
        C.is("pass(3): all 8 are NEEDED by the END", y.pass(3), 0);
    }

    private static void justOneEdge() {
        C.part("'a JUMP to a BLOCK B that is not A, and to which there is just one EDGE'");
        PhiHall x = withBlocks(2);
        jump(x, 0, 1);
        x.form();
        C.is("pass(4): one EDGE", x.pass(4), 1);
        C.is("BLOCKS", x.many(7), 1);
        jump(x, 1, 1);
        x.form();
        C.is("pass(4): two EDGES", x.pass(4), 0);
        branch(x, 0, V0, 1, 1);
        give(x, 1, 0);
        x.form();
        C.is("pass(4): two EDGES of an IF", x.pass(4), 0);
        PhiHall y = withBlocks(10);
        for (int block = 0; block < 9; block++) {
            print(y, block, block);
            jump(y, block, block + 1);
        }
        give(y, 9, 99);
        y.form();
        C.is("pass(4): nine, again and again", y.pass(4), 9);
        for (int k = 0; k < 9; k++) {
            C.is("valueAt(0, " + k + ")", y.valueAt(0, k), 6 + k);
        }
        C.is("VALUES in 0", y.ofPlace(0, 1), 9);
        C.is("END of 0", y.ofPlace(0, 7), 99);
        C.is("EDGES", y.many(8), 0);
        C.is("runForm", y.runForm(0, 0), 0);
        C.is("COST without JUMPS", y.ofRun(3), 9);
        C.is("ENDS", y.ofRun(4), 1);
    }

    private static void hasItsEnd() {
        C.part("'A has the END of B', where A is not the BLOCK 0");
        PhiHall x = withBlocks(6);
        branch(x, 0, V0, 4, 2);
        jump(x, 4, 3);
        x.line(3, 1, 2, V0, V1);
        give(x, 3, V2);
        jump(x, 2, 1);
        x.line(1, 2, 2, V0, V1);
        branch(x, 1, V2, 5, 4);
        give(x, 5, 55);
        x.form();
        C.is("pass(4): 1 behind 2, 3 behind 4", x.pass(4), 2);
        int[][] want = {{1, 0, 2, 4, 2, 0, 0, 0}, {0, 0, 0, 0, 0, 0, 0, 0}, {1, 1, 2, 5, 4, 1, 6, 0}, {0, 0, 0, 0, 0, 0, 0, 0},
            {1, 1, 0, NONE, NONE, 2, 7, 0}, {1, 0, 0, NONE, NONE, 1, NONE, 55}};
        for (int block = 0; block < 6; block++) {
            for (int what = 0; what <= 7; what++) {
                C.is("ofPlace(" + block + ", " + what + ")", x.ofPlace(block, what), want[block][what]);
            }
        }
        C.is("EDGES to 4, by the BLOCKS from which they came", x.edge(4, 0) * 10 + x.edge(4, 1), 2);
        C.is("EDGE to 5", x.edge(5, 0), 2);
        C.is("uses of the ADD", x.ofValue(7, 4), 1);
        C.is("pass(3)", x.pass(3), 0);
        x.runForm(7, 3);
        C.is("RETURNED", x.ofRun(1), 10);
        x.runForm(-7, 3);
        C.is("RETURNED", x.ofRun(1), -4);
        x.runForm(0, -3);
        C.is("RETURNED", x.ofRun(1), 55);
    }

    private static void jumpToItself() {
        C.part("'A JUMP that is from A to itself by that stays'");
        PhiHall x = withBlocks(3);
        branch(x, 0, V0, 1, 1);
        jump(x, 1, 2);
        jump(x, 2, 1);
        x.form();
        C.is("pass(4)", x.pass(4), 1);
        C.is("KIND of the END of 1", x.ofPlace(1, 2), 1);
        C.is("it goes to", x.ofPlace(1, 3), 1);
        C.is("EDGES to 1", x.ofPlace(1, 5), 3);
        C.is("the last EDGE", x.edge(1, 2), 1);
        C.is("pass(4) again", x.pass(4), 0);
        C.is("runForm", x.runForm(0, 0), 2);
        C.is("COST", x.ofRun(3), 2 + 299);
    }

    // ---- the promises

    private static void newObject() {
        C.part("Promise 1, 'the BLOCK 0, without LINES, and without a FORM'");
        PhiHall x = new PhiHall();
        int[] want = {1, 1, 0, 0, 0, 0, 0, 0, 0, 0, 0};
        for (int what = 0; what <= 10; what++) {
            C.is("many(" + what + ")", x.many(what), want[what]);
        }
        int[] block = {0, 0, 1, 1, 0, 0};
        for (int what = 0; what <= 5; what++) {
            C.is("ofBlock(0, " + what + ")", x.ofBlock(0, what), block[what]);
        }
    }

    private static void cutLines() {
        C.part("Promise 4, 'Cuts the last LINE of a BLOCK.', to none and to 8 again");
        PhiHall x = withBlocks(2);
        for (int block = 0; block <= 1; block++) {
            for (int k = 0; k < 8; k++) {
                print(x, block, k);
            }
        }
        for (int k = 7; k >= 0; k--) {
            C.is("cut(1)", x.cut(1), k);
            C.is("how many LINES", x.ofBlock(1, 0), k);
        }
        C.is("those of the BLOCK 0", x.ofBlock(0, 0), 8);
        for (int k = 0; k < 8; k++) {
            C.is("line", x.line(1, 8, 0, 50 + k, 0), k);
        }
        jump(x, 0, 1);
        x.run(0, 0);
        C.is("the last one of BLOCK 0", x.printed(7), 7);
        C.is("the first new one", x.printed(8), 50);
        C.is("the last new one", x.printed(15), 57);
    }

    private static void ofPlaceWithout() {
        C.part("Promise 9, 'if it is THERE (otherwise 0)', '(.. NONE of a RETURN)', '(NONE of others)', '(NONE, if that is a number, or there is none)', '(0 without)'");
        PhiHall x = withBlocks(5);
        branch(x, 0, 5, 1, 2);
        jump(x, 1, 3);
        give(x, 2, V1);
        give(x, 3, -99);
        x.form();
        int[][] want = {{1, 0, 2, 1, 2, 0, NONE, 5}, {1, 0, 1, 3, NONE, 1, NONE, 0}, {1, 0, 0, NONE, NONE, 1, 1, 0},
            {1, 0, 0, NONE, NONE, 1, NONE, -99}, {0, 0, 0, 0, 0, 0, 0, 0}};
        for (int block = 0; block < 5; block++) {
            for (int what = 0; what <= 7; what++) {
                C.is("ofPlace(" + block + ", " + what + ")", x.ofPlace(block, what), want[block][what]);
            }
        }
        C.is("pass(1)", x.pass(1), 1);
        C.is("pass(4)", x.pass(4), 2);
        for (int block = 1; block < 5; block++) {
            for (int what = 0; what <= 7; what++) {
                C.is("ofPlace(" + block + ", " + what + "), GONE or not REACHED", x.ofPlace(block, what), 0);
            }
        }
        int[] left = {1, 0, 0, NONE, NONE, 0, NONE, -99};
        for (int what = 0; what <= 7; what++) {
            C.is("ofPlace(0, " + what + ")", x.ofPlace(0, what), left[what]);
        }
    }

    private static void ofValueWhenGone() {
        C.part("Promise 12, '(NONE, if it is GONE, or one of the first six)', '(0, if it is GONE)', 'how often it is an ARGUMENT, of ENDS, too'");
        PhiHall x = new PhiHall();
        x.line(0, 1, 2, V0, V0);
        x.line(0, 1, 3, V0, V0);
        give(x, 0, V2);
        x.form();
        int[][] want = {{1, 0, NONE, 2, 1}, {1, 0, NONE, 2, 0}};
        int[][] then = {{1, 0, NONE, 2, 1}, {1, NONE, NONE, 0, 0}};
        C.is("VALUE 0, four times", x.ofValue(0, 4), 4);
        for (int k = 0; k < 2; k++) {
            for (int value = 6; value <= 7; value++) {
                for (int what = 0; what <= 4; what++) {
                    C.is("ofValue(" + value + ", " + what + ")", x.ofValue(value, what), (k == 0 ? want : then)[value - 6][what]);
                }
            }
            C.is("pass(3)", x.pass(3), 1 - k);
        }
        C.is("VALUE 0, twice", x.ofValue(0, 4), 2);
        C.is("VALUE 0 has no ARGUMENT", x.ofValue(0, 3), 0);
        C.is("nor a BLOCK", x.ofValue(0, 1), NONE);
    }

    private static void numberOrValue() {
        C.part("Promises 13 and 14, 'NONE, if it is a number', '0, if it is a VALUE'");
        PhiHall x = new PhiHall();
        store(x, 0, V5, -99);
        store(x, 0, 0, V0);
        x.form();
        int[][] want = {{6, 0, 5, 0}, {6, 1, NONE, -99}, {7, 0, NONE, 0}, {7, 1, 0, 0}};
        for (int[] w : want) {
            C.is("argument(" + w[0] + ", " + w[1] + ")", x.argument(w[0], w[1]), w[2]);
            C.is("number(" + w[0] + ", " + w[1] + ")", x.number(w[0], w[1]), w[3]);
        }
    }

    private static void howRunsEnd() {
        C.part("Promises 15 and 16, '0, if it ends by a RETURN, 1 by a TRAP, 2 if it is CUT'");
        PhiHall x = withBlocks(4);
        branch(x, 0, V0, 1, 2);
        x.line(1, 4, 2, V0, V1);
        jump(x, 2, 2);
        x.form();
        C.is("run: RETURN", x.run(1, 1), 0);
        C.is("run: TRAP", x.run(1, 0), 1);
        C.is("run: CUT", x.run(0, 0), 2);
        C.is("runForm: RETURN", x.runForm(1, 1), 0);
        C.is("runForm: TRAP", x.runForm(1, 0), 1);
        C.is("runForm: CUT", x.runForm(0, 0), 2);
    }

    private static void returnedWithout() {
        C.part("Promise 17, 'what was RETURNED (0 without)', '(a RETURN is one)', '0 ahead of all runs'");
        PhiHall x = counting();
        for (int what = 0; what <= 5; what++) {
            C.is("ofRun(" + what + ") ahead of all", x.ofRun(what), 0);
        }
        x.form();
        x.isAlike(2, 2);
        x.wouldCost(0, 2, 2);
        x.digest();
        for (int what = 0; what <= 5; what++) {
            C.is("ofRun(" + what + ") ahead of all, still", x.ofRun(what), 0);
        }
        int[][] want = {{0, 5, 1, 1 + 20 + 9, 7, 1}, {1, 0, 1, 1 + 20 + 9, 6, 2}, {2, 0, 0, 1 + 299 * 4 + 2, 300, 3}};
        int[][] inputs = {{5, 1}, {5, 0}, {301, 1}};
        for (int k = 0; k < 6; k++) {
            int[] in = inputs[k % 3];
            if (k < 3) {
                x.run(in[0], in[1]);
            } else {
                x.runForm(in[0], in[1]);
            }
            for (int what = 0; what <= 5; what++) {
                C.is("ofRun(" + what + ") of run " + k, x.ofRun(what), what == 5 ? k + 1 : want[k % 3][what]);
            }
        }
        PhiHall y = new PhiHall();
        y.run(0, 0);
        C.is("ENDS: the RETURN", y.ofRun(4), 1);
    }

    private static void sixtyKept() {
        C.part("Promise 18, '(the first 60 are kept)'");
        for (int count = 59; count <= 61; count++) {
            PhiHall x = withBlocks(3);
            jump(x, 0, 1);
            print(x, 1, V0);
            x.line(1, 2, 0, V0, 1);
            branch(x, 1, V0, 1, 2);
            x.form();
            for (int way = 0; way < 2; way++) {
                C.is("run or runForm", way == 0 ? x.run(count, 0) : x.runForm(count, 0), 0);
                C.is("how many were PRINTED", x.ofRun(2), count);
                int kept = 0;
                for (int k = 0; k < 70 && isPrinted(x, k); k++) {
                    C.is("printed(" + k + ")", x.printed(k), count - k);
                    kept++;
                }
                C.is("how many are kept", kept, Math.min(count, 60));
            }
            x.run(1, 0);
            C.holds("of the latest run", isPrinted(x, 0) && !isPrinted(x, 1));
        }
        PhiHall y = new PhiHall();
        y.run(0, 0);
        C.holds("none is PRINTED", !isPrinted(y, 0));
    }

    private static boolean isPrinted(PhiHall x, int k) {
        try {
            x.printed(k);
            return true;
        } catch (IndexOutOfBoundsException e) {
            return false;
        }
    }

    private static void cellsAheadOfAll() {
        C.part("Promise 19, 'Returns what it held at the end of the latest run; 0 ahead of all runs'");
        PhiHall x = new PhiHall();
        store(x, 0, 7, V0);
        x.form();
        x.isAlike(9, 9);
        x.wouldCost(0, 9, 9);
        for (int cell = 0; cell < 8; cell++) {
            C.is("cell(" + cell + ")", x.cell(cell), 0);
        }
        x.run(LEAST, 0);
        C.is("cell(7)", x.cell(7), LEAST);
        x.runForm(3, 0);
        C.is("cell(7)", x.cell(7), 3);
        x.cut(0);
        x.run(3, 0);
        C.is("cell(7) of a run without it", x.cell(7), 0);
    }

    private static void manyWithoutForm() {
        C.part("Promise 20, 'of the FORM (0 without one)'");
        PhiHall x = full();
        int[] told = {10, 10, 80, 0, 0, 0, 0, 0, 0, 0, 0};
        int[] made = {10, 10, 80, 1, 140, 134, 54, 10, 20, 0, 0};
        for (int what = 0; what <= 10; what++) {
            C.is("many(" + what + ") without one", x.many(what), told[what]);
        }
        x.form();
        for (int what = 0; what <= 10; what++) {
            C.is("many(" + what + ")", x.many(what), made[what]);
        }
        int gone = 0;
        for (int k = 0; k < 12; k++) {
            gone += x.pass(1 + k % 4);
            C.is("passes that were done", x.many(9), k + 1);
            C.is("GONE by these", x.many(10), gone);
            C.is("VALUES that were made", x.many(4), 140);
        }
        x.form();
        C.is("passes over a new one", x.many(9), 0);
        C.is("GONE by these", x.many(10), 0);
        PhiHall y = new PhiHall();
        y.form();
        int[] empty = {1, 1, 0, 1, 6, 0, 0, 1, 0, 0, 0};
        for (int what = 0; what <= 10; what++) {
            C.is("many(" + what + ") of nothing", y.many(what), empty[what]);
        }
    }

    private static void meanCost() {
        C.part("Promise 21, '(those that were CUT, too), not cut towards 0; 0 without any'");
        PhiHall x = withBlocks(2);
        C.isDouble("meanCost() without any", x.meanCost(), 0.0);
        branch(x, 0, V0, 1, 1);
        x.run(0, 0);
        C.isDouble("meanCost() of 2", x.meanCost(), 2.0);
        give(x, 0, 0);
        x.run(0, 0);
        x.run(0, 0);
        C.isDouble("meanCost() of 2, 0, 0", x.meanCost(), 2.0 / 3);
        jump(x, 0, 1);
        jump(x, 1, 1);
        x.form();
        x.runForm(0, 0);
        C.isDouble("meanCost() of 2, 0, 0, 300 (CUT)", x.meanCost(), 302.0 / 4);
        x.line(0, 4, 2, 1, 0);
        x.run(0, 0);
        C.isDouble("meanCost() of 2, 0, 0, 300, 8 (a TRAP)", x.meanCost(), 62.0);
    }

    private static void wouldGoNothing() {
        C.part("Promise 22, 'Returns what pass() would tell', and nothing is changed");
        PhiHall x = full();
        x.form();
        x.run(1, 1);
        for (int k = 0; k < 8; k++) {
            int pass = 1 + k % 4;
            long before = x.digest();
            int would = x.wouldGo(pass);
            C.is("wouldGo(" + pass + ") again", x.wouldGo(pass), would);
            C.same("wouldGo(" + pass + ") changes nothing", Picture.of(x), Picture.of(x));
            C.is("digest", x.digest(), before);
            C.is("pass(" + pass + ")", x.pass(pass), would);
        }
        PhiHall y = new PhiHall();
        y.form();
        for (int pass = 1; pass <= 4; pass++) {
            C.is("wouldGo(" + pass + ") of nothing", y.wouldGo(pass), 0);
            C.is("pass(" + pass + ") of nothing", y.pass(pass), 0);
        }
    }

    private static void wouldCostNoRound() {
        C.part("Promise 23, 'how many rounds of the passes 1, 2, 3, 4 one behind the other', 0 to 5");
        PhiHall x = ladder(5);
        int[] costs = new int[6];
        for (int passes = 0; passes <= 5; passes++) {
            costs[passes] = x.wouldCost(passes, 3, -2);
        }
        C.is("nothing is changed: passes", x.many(9), 0);
        for (int passes = 0; passes <= 5; passes++) {
            x.runForm(3, -2);
            C.is("runForm behind " + passes, x.ofRun(3), costs[passes]);
            for (int pass = 1; pass <= 4; pass++) {
                x.pass(pass);
            }
        }
        C.is("runs", x.ofRun(5), 6);
        PhiHall y = new PhiHall();
        y.form();
        for (int passes = 0; passes <= 5; passes++) {
            C.is("wouldCost(" + passes + ") of nothing", y.wouldCost(passes, LEAST, MOST), 0);
        }
    }

    private static void fortyAtMost() {
        C.part("Promise 24, 'four one behind the other are the first that tell 0 each (with them; 40 at most)'");
        PhiHall x = new PhiHall();
        x.form();
        C.is("untilStill() of nothing", x.untilStill(), 4);
        for (int blocks = 3; blocks <= 10; blocks++) {
            PhiHall y = ladder(blocks);
            int changing = 0;
            int still = 0;
            for (int k = 0; still < 4; k++) {
                still = y.pass(1 + k % 4) == 0 ? still + 1 : 0;
                changing = still == 0 ? k + 1 : changing;
            }
            C.is("the last pass of a ladder of " + blocks + " that tells more than 0", changing, 4 * (2 * blocks - 3) - 2);
            y.form();
            C.is("untilStill() of a ladder of " + blocks, y.untilStill(), Math.min(40, changing + 4));
            C.is("passes", y.many(9), 0);
        }
    }

    private static void isAlikeAside() {
        C.part("Promise 25, 'PRINT (all, in order)' .. '(COST aside)'");
        PhiHall x = withBlocks(3);
        jump(x, 0, 1);
        for (int k = 0; k < 7; k++) {
            print(x, 1, k);
        }
        x.line(1, 2, 0, V0, 1);
        branch(x, 1, V0, 1, 2);
        x.form();
        x.cut(1);
        x.cut(1);
        print(x, 1, V1);
        x.line(1, 2, 0, V0, 1);
        C.holds("299 * 7 are PRINTED, and all are the same", x.isAlike(400, 6));
        C.holds("the last one of 7 is another one", !x.isAlike(1, 5));
        PhiHall y = counting();
        y.form();
        y.line(2, 5, 5, V2, 70);
        C.holds("COST aside", y.isAlike(70, 1));
        for (int v = 0; v < 2; v++) {
            PhiHall z = new PhiHall();
            print(z, 0, V0);
            print(z, 0, V1);
            z.form();
            z.cut(0);
            z.cut(0);
            print(z, 0, V1);
            print(z, 0, V0);
            C.is("in another order", z.isAlike(5, 6 - v) ? 1 : 0, v);
        }
    }

    private static void onlyTheLastPrinted() {
        C.part("Promise 25, 'PRINT (all, in order)': the 61st, and the last of 2400 alone is another one");
        PhiHall x = withBlocks(4);
        jump(x, 0, 1);
        for (int k = 0; k < 6; k++) {
            print(x, 1, k);
        }
        x.line(1, 1, 2, V2, 1);
        x.line(1, 5, 3, V2, V0);
        branch(x, 1, V3, 1, 2);
        print(x, 2, 8);
        x.form();
        x.cut(2);
        print(x, 2, V1);
        C.holds("the 61st is the same", x.isAlike(10, 8));
        C.holds("the 61st is another one", !x.isAlike(10, 9));
        C.holds("the 1789th is the same", x.isAlike(298, 8));
        C.holds("the 1789th is another one", !x.isAlike(298, 9));
        C.holds("both are CUT behind the 1795th, which is the same", x.isAlike(299, 8));
        C.holds("both are CUT behind the 1795th, which is another one", !x.isAlike(299, 9));
        C.holds("both are CUT ahead of it", x.isAlike(300, 9));
    }

    private static void digestWraps() {
        C.part("Promise 26, 'd becomes d * 31 + v, which wraps around as a 64-bit integer'");
        PhiHall x = new PhiHall();
        long d = 7605;
        int[] all = {1, 1, 0, 0, 0, 0, 0, 0, 0, 0, 0, 0, 0, 1, 1, 0, 0, 0, 0, 0, 0, 0, 0, 0, 0, 0, 0, 0, 0, 0, 0};
        for (int v : all) {
            d = d * 31 + v;
        }
        C.is("of 11 + 6 + 6 + 8 numbers", all.length, 31);
        C.is("digest() without runs or a FORM", x.digest(), d);
    }

    private static void digestOfItsInputs() {
        C.part("Promise 26, 'wouldCost() of 0 and of 2 rounds with 3 and -2'");
        for (int v = 0; v <= 1; v++) {
            PhiHall x = new PhiHall();
            x.line(0, 2, 2, 100 + v, v == 0 ? 3 : -2);
            x.line(0, 4, 3, 1, V2);
            store(x, 0, 1, V3);
            x.form();
            C.is("COST of a TRAP", x.wouldCost(0, 3, -2), 9);
            C.is("COST else", x.wouldCost(0, 3 + 1 - v, -2 + v), 13);
            C.is("digest()", x.digest(), folded(x));
        }
    }

    private static long folded(PhiHall x) {
        long d = 7605;
        for (int what = 0; what <= 10; what++) d = d * 31 + x.many(what);
        for (int what = 0; what <= 5; what++) d = d * 31 + x.ofBlock(0, what);
        for (int what = 0; what <= 5; what++) d = d * 31 + x.ofRun(what);
        for (int cell = 0; cell <= 7; cell++) d = d * 31 + x.cell(cell);
        for (int what = 0; what <= 7; what++) d = d * 31 + x.ofPlace(0, what);
        for (int k = 0; k < x.ofPlace(0, 1); k++) d = d * 31 + x.valueAt(0, k);
        for (int value = 0; value < x.many(4); value++) {
            for (int what = 0; what <= 4; what++) d = d * 31 + x.ofValue(value, what);
            for (int k = 0; k < x.ofValue(value, 3); k++) d = (d * 31 + x.argument(value, k)) * 31 + x.number(value, k);
        }
        for (int pass = 1; pass <= 4; pass++) d = d * 31 + x.wouldGo(pass);
        return (d * 31 + x.wouldCost(0, 3, -2)) * 31 + x.wouldCost(2, 3, -2);
    }

    private static void fiveHundredTwelveCalls() {
        C.part("'An object is used for at most 512 calls'");
        PhiHall x = full();
        int calls = 9 + 80 + 10;
        x.form();
        calls++;
        while (calls < 510) {
            x.pass(1 + calls % 4);
            x.untilStill();
            x.run(calls, -calls);
            calls += 3;
        }
        PhiHall y = full();
        y.form();
        y.run(3, -2);
        x.form();
        x.run(3, -2);
        C.is("the 512th answers as ever", x.ofRun(3), y.ofRun(3));
    }

    public static void main(String[] args) {
        goRound();
        goRoundInThePass();
        cutTowardsZero();
        none();
        setsAreSums();
        tenBlocks();
        theBlockZero();
        variables();
        operands();
        eightLines();
        lessThan();
        trapOfADiv();
        cells();
        eightCells();
        returnZero();
        ifAboveZero();
        ifToTheSame();
        noEndToZero();
        beginnings();
        endOf301();
        costs();
        phisCostNothing();
        reached();
        dominatesItself();
        frontier();
        wanted();
        wantedFarAway();
        phisStand();
        phiByOneThatWouldBe();
        valuesAreNumbered();
        fullForm();
        madeAnew();
        toldAnew();
        edgesInOrder();
        twoEdgesOfAnIf();
        thereAndReached();
        phisAllAtOnce();
        numberOrMany();
        beganWith();
        ifOfANumber();
        edgesThatAreNotThere();
        endsOfWhatIsGone();
        risesAgainstTheNumbers();
        phiOfKnown();
        unknownGoesNowhere();
        storesAndPrintsStay();
        phiOfItself();
        twins();
        inEitherOrder();
        inEitherOrderOfNumbers();
        dominatedOnes();
        needed();
        begunOnesStay();
        justOneEdge();
        hasItsEnd();
        jumpToItself();
        newObject();
        cutLines();
        ofPlaceWithout();
        ofValueWhenGone();
        numberOrValue();
        howRunsEnd();
        returnedWithout();
        sixtyKept();
        cellsAheadOfAll();
        manyWithoutForm();
        meanCost();
        wouldGoNothing();
        wouldCostNoRound();
        fortyAtMost();
        isAlikeAside();
        onlyTheLastPrinted();
        digestWraps();
        digestOfItsInputs();
        fiveHundredTwelveCalls();
        C.finish();
    }
}
