/** Each promise of the document: ordinary inputs, the edges that it names, and wrong inputs. */
public final class PromisesTest extends Programs {
    private static final Class<IndexOutOfBoundsException> OUT = IndexOutOfBoundsException.class;
    private static final Class<IllegalArgumentException> WRONG = IllegalArgumentException.class;
    private static final Class<IllegalStateException> STATE = IllegalStateException.class;

    private static final Check C = new Check("PromisesTest");

    private static void newObject() {
        C.part("promise 1");
        PhiHall x = new PhiHall();
        C.is("many(0)", x.many(0), 1);
        C.is("many(2)", x.many(2), 0);
        C.is("many(3)", x.many(3), 0);
        C.is("ofBlock(0, 1)", x.ofBlock(0, 1), 0);
        C.is("run", x.run(5, 6), 0);
        C.is("returned", x.ofRun(1), 0);
    }

    private static void block() {
        C.part("promise 2");
        PhiHall x = new PhiHall();
        for (int k = 1; k < 10; k++) {
            C.is("block()", x.block(), k);
        }
        C.throwing(x, "the 11th block()", STATE, x::block);
        C.is("many(0)", x.many(0), 10);
        C.is("many(1)", x.many(1), 1);
    }

    private static void line() {
        C.part("promise 3");
        PhiHall x = new PhiHall();
        C.throwing(x, "line(-1, ..)", OUT, () -> x.line(-1, 0, 0, 0, 0));
        C.throwing(x, "line(1, ..) with a wrong kind", OUT, () -> x.line(1, 9, 0, 0, 0));
        C.throwing(x, "kind -1", WRONG, () -> x.line(0, -1, 0, 0, 0));
        C.throwing(x, "kind 9", WRONG, () -> x.line(0, 9, 0, 0, 0));
        for (int kind = 0; kind <= 8; kind++) {
            int k = kind;
            boolean namesD = kind <= 6;
            boolean namesQ = kind >= 1 && kind <= 5 || kind == 7;
            C.throwing(x, "d -1 of kind " + kind, WRONG, () -> x.line(0, k, -1, 0, 0));
            C.throwing(x, "d 6 of kind " + kind, WRONG, () -> x.line(0, k, 6, 0, 0));
            C.throwing(x, "p -100 of kind " + kind, WRONG, () -> x.line(0, k, 0, -100, 0));
            C.throwing(x, "p 106 of kind " + kind, WRONG, () -> x.line(0, k, 0, 106, 0));
            C.throwing(x, "q -100 of kind " + kind, WRONG, () -> x.line(0, k, 0, 0, -100));
            C.throwing(x, "q 106 of kind " + kind, WRONG, () -> x.line(0, k, 0, 0, 106));
            if (!namesD) {
                C.throwing(x, "d 1 of kind " + kind, WRONG, () -> x.line(0, k, 1, 0, 0));
            }
            if (!namesQ) {
                C.throwing(x, "q 1 of kind " + kind, WRONG, () -> x.line(0, k, 0, 0, 1));
            }
            C.is("line of kind " + kind, x.line(0, kind, namesD ? 5 : 0, kind % 2 == 0 ? -99 : 105, namesQ ? 99 : 0), kind < 8 ? kind : 7);
            if (kind == 7) {
                C.throwing(x, "the 9th LINE", STATE, () -> x.line(0, 0, 0, 0, 0));
                C.throwing(x, "the 9th LINE, wrong", WRONG, () -> x.line(0, 0, 6, 0, 0));
                x.cut(0);
            }
        }
        C.is("many(2)", x.many(2), 8);
    }

    private static void cut() {
        C.part("promise 4");
        PhiHall x = withBlocks(2);
        C.throwing(x, "cut(2)", OUT, () -> x.cut(2));
        C.throwing(x, "cut(-1)", OUT, () -> x.cut(-1));
        C.throwing(x, "cut of none", STATE, () -> x.cut(1));
        print(x, 1, 1);
        print(x, 1, 2);
        jump(x, 0, 1);
        C.is("cut(1)", x.cut(1), 1);
        x.run(0, 0);
        C.is("many printed", x.ofRun(2), 1);
        C.is("printed(0)", x.printed(0), 1);
        C.is("line again", x.line(1, 8, 0, 3, 0), 1);
        C.is("cut(1)", x.cut(1), 1);
        C.is("cut(1)", x.cut(1), 0);
        print(x, 1, V4);
        C.is("WANTED with the LINE", x.ofBlock(0, 5), 0b010000);
        x.cut(1);
        C.is("WANTED without it", x.ofBlock(0, 5), 0);
    }

    private static void end() {
        C.part("promise 5");
        PhiHall x = withBlocks(3);
        C.throwing(x, "end(3, ..)", OUT, () -> x.end(3, 9, 0, 0, 0));
        C.throwing(x, "end(-1, ..)", OUT, () -> x.end(-1, 0, 0, 0, 0));
        C.throwing(x, "kind 3", WRONG, () -> x.end(0, 3, 0, 1, 1));
        C.throwing(x, "kind -1", WRONG, () -> x.end(0, -1, 0, 0, 0));
        C.throwing(x, "RETURN 106", WRONG, () -> x.end(0, 0, 106, 0, 0));
        C.throwing(x, "RETURN -100", WRONG, () -> x.end(0, 0, -100, 0, 0));
        C.throwing(x, "RETURN to 1", WRONG, () -> x.end(0, 0, 0, 1, 0));
        C.throwing(x, "RETURN other 1", WRONG, () -> x.end(0, 0, 0, 0, 1));
        C.throwing(x, "JUMP to 0", WRONG, () -> x.end(0, 1, 0, 0, 0));
        C.throwing(x, "JUMP to 3", WRONG, () -> x.end(0, 1, 0, 3, 0));
        C.throwing(x, "JUMP to -1", WRONG, () -> x.end(0, 1, 0, -1, 0));
        C.throwing(x, "JUMP with p", WRONG, () -> x.end(0, 1, 1, 1, 0));
        C.throwing(x, "JUMP with other", WRONG, () -> x.end(0, 1, 0, 1, 1));
        C.throwing(x, "IF 106", WRONG, () -> x.end(0, 2, 106, 1, 1));
        C.throwing(x, "IF to 0", WRONG, () -> x.end(0, 2, 0, 0, 1));
        C.throwing(x, "IF other 0", WRONG, () -> x.end(0, 2, 0, 1, 0));
        C.throwing(x, "IF to 3", WRONG, () -> x.end(0, 2, 0, 3, 1));
        C.throwing(x, "IF other 3", WRONG, () -> x.end(0, 2, 0, 1, 3));
        C.is("JUMP", x.end(0, 1, 0, 2, 0), 0);
        C.is("IF to the same", x.end(0, 2, V5, 1, 1), 1);
        C.is("IF to itself", x.end(1, 2, -99, 1, 2), 0);
        C.is("RETURN 99", x.end(0, 0, 99, 0, 0), 2);
        x.run(0, 0);
        C.is("returned", x.ofRun(1), 99);
        C.is("ofBlock(0, 1)", x.ofBlock(0, 1), 0);
        C.is("ofBlock(1, 1)", x.ofBlock(1, 1), 2);
    }

    private static void ofBlock() {
        C.part("promise 6");
        PhiHall x = loop();
        x.block();
        print(x, 4, V5);
        jump(x, 4, 1);
        C.throwing(x, "ofBlock(5, 9)", OUT, () -> x.ofBlock(5, 9));
        C.throwing(x, "ofBlock(-1, 0)", OUT, () -> x.ofBlock(-1, 0));
        C.throwing(x, "ofBlock(0, 6)", WRONG, () -> x.ofBlock(0, 6));
        C.throwing(x, "ofBlock(0, -1)", WRONG, () -> x.ofBlock(0, -1));
        int[][] want = {{1, 1, 1, 0b1111, 0, 0b000001}, {1, 2, 1, 0b1110, 0b0010, 0b000101}, {2, 1, 1, 0b0100, 0b0010, 0b000101},
            {1, 0, 1, 0b1000, 0, 0b000100}, {1, 1, 0, 0, 0, 0}};
        for (int block = 0; block < want.length; block++) {
            for (int what = 0; what <= 5; what++) {
                C.is("ofBlock(" + block + ", " + what + ")", x.ofBlock(block, what), want[block][what]);
            }
        }
        PhiHall y = diamond();
        put(y, 1, 3, V3);
        print(y, 3, V3);
        C.is("what 0 DOMINATES in a diamond", y.ofBlock(0, 3), 0b1111);
        C.is("what 1 DOMINATES in a diamond", y.ofBlock(1, 3), 0b0010);
        C.is("FRONTIER of 1", y.ofBlock(1, 4), 0b1000);
        C.is("FRONTIER of 2", y.ofBlock(2, 4), 0b1000);
        C.is("FRONTIER of 3", y.ofBlock(3, 4), 0);
        C.is("WANTED at 1: read by the LINE that sets it", y.ofBlock(1, 5), 0b001000);
        put(y, 0, 3, 1);
        C.is("WANTED at 0: set there, and the IF's", y.ofBlock(0, 5), 0b000001);
        C.is("WANTED at 2", y.ofBlock(2, 5), 0b001000);
    }

    private static void form() {
        C.part("promise 7");
        PhiHall x = loop();
        C.is("form()", x.form(), 12);
        int[][] args = {{6, 0, 0, 0}, {6, 1, 10, 0}, {7, 0, NONE, 0}, {7, 1, 9, 0}, {8, 0, NONE, 0}, {8, 1, 6, 0}, {9, 0, 7, 0},
            {9, 1, 6, 0}, {10, 0, 6, 0}, {10, 1, NONE, 1}, {11, 0, 7, 0}};
        for (int[] a : args) {
            C.is("argument(" + a[0] + ", " + a[1] + ")", x.argument(a[0], a[1]), a[2]);
            C.is("number(" + a[0] + ", " + a[1] + ")", x.number(a[0], a[1]), a[3]);
        }
        C.is("END of 3", x.ofPlace(3, 6), 7);
        x.pass(1);
        x.pass(3);
        C.is("form() again", x.form(), 12);
        C.is("passes behind form()", x.many(9), 0);
        C.is("GONE behind form()", x.many(10), 0);

        PhiHall y = diamond();
        put(y, 1, 2, 5);
        put(y, 2, 3, V2);
        put(y, 1, 4, 1);
        print(y, 3, V2);
        print(y, 3, V3);
        C.is("form() of a diamond", y.form(), 10);
        C.is("PHIS: v4 is not WANTED", y.many(6), 2);
        C.is("v2 from 1", y.number(6, 0), 5);
        C.is("v2 from 2", y.argument(6, 1), 2);
        C.is("v3 from 1", y.argument(7, 0), 3);
        C.is("v3 from 2 by a PUT of v2", y.argument(7, 1), 2);

        phiByPhi();
        fullForm();
    }

    /** A PHI that would be, but is not WANTED, makes another one behind it. */
    private static void phiByPhi() {
        PhiHall x = withBlocks(6);
        branch(x, 0, V0, 1, 5);
        branch(x, 1, V1, 2, 3);
        put(x, 2, 2, 7);
        jump(x, 2, 4);
        jump(x, 3, 4);
        put(x, 4, 3, V1);
        jump(x, 4, 5);
        print(x, 5, V2);
        x.form();
        C.is("PHIS of 4", x.ofValue(6, 1), 4);
        C.is("PHIS of 5", x.ofValue(7, 1), 5);
        C.is("PHIS", x.many(6), 2);
        put(x, 4, 2, 1);
        x.form();
        C.is("PHIS, v2 not WANTED at 4", x.many(6), 1);
        C.is("the PHI of 5", x.ofValue(6, 1), 5);
    }

    /** As many VALUES, EDGES and ARGUMENTS as there can be. */
    private static void fullForm() {
        PhiHall x = withBlocks(10);
        for (int block = 0; block < 10; block++) {
            for (int k = 0; k < 8; k++) {
                x.line(block, 1, k % 6, 100 + k % 6, 100 + (k + block) % 6);
            }
            branch(x, block, V0, block == 9 ? 1 : block + 1, 1);
        }
        C.is("form() of all", x.form(), 6 + 80 + 6);
        C.is("EDGES", x.many(8), 20);
        C.is("EDGES to 1", x.ofPlace(1, 5), 12);
        for (int block = 0; block < 10; block++) {
            branch(x, block, V1, 1, 1);
        }
        C.is("form() of 2 REACHED", x.form(), 6 + 16 + 6);
        for (int block = 0; block < 9; block++) {
            branch(x, block, V0, block + 1, 9 - block / 2);
        }
        x.form();
        C.is("run", x.run(1, 1), x.runForm(1, 1));
    }

    private static void pass() {
        C.part("promise 8");
        PhiHall x = loop();
        C.throwing(x, "pass(0) without a FORM", WRONG, () -> x.pass(0));
        C.throwing(x, "pass(1) without a FORM", STATE, () -> x.pass(1));
        x.form();
        C.throwing(x, "pass(5)", WRONG, () -> x.pass(5));
        C.throwing(x, "pass(-1)", WRONG, () -> x.pass(-1));
        for (int pass = 1; pass <= 4; pass++) {
            C.is("pass(" + pass + ") of a loop", x.pass(pass), 0);
        }
        constants();
        constantsOfWays();
        numbersOfReckonings();
        numbersOfPhis();
        dead();
        join();
    }

    private static void constants() {
        C.part("promise 8, pass 1");
        PhiHall x = withBlocks(3);
        put(x, 0, 2, 1);
        jump(x, 0, 1);
        x.line(1, 3, 2, V2, V2);
        branch(x, 1, V0, 1, 2);
        x.line(2, 4, 3, 7, 0);
        x.line(2, 4, 4, -7, 2);
        x.line(2, 1, 4, V4, V5);
        load(x, 2, 5, 1);
        store(x, 2, V5, V5);
        give(x, 2, V2);
        x.form();
        C.is("pass(1): PHI, MUL, DIV, ADD", x.pass(1), 4);
        C.is("RETURN of a number", x.ofPlace(2, 7), 1);
        C.is("VALUE of RETURN", x.ofPlace(2, 6), NONE);
        C.is("left in 2: DIV by 0, LOAD, STORE", x.ofPlace(2, 1), 3);
        C.is("PHIS", x.many(6), 0);
        C.is("GONE", x.ofValue(6, 1), NONE);
        C.is("VALUES 0 stay", x.ofPlace(1, 6), 0);

        PhiHall y = new PhiHall();
        print(y, 0, V2);
        print(y, 0, V0);
        give(y, 0, V5);
        y.form();
        C.is("pass(1) of begun ones", y.pass(1), 0);
        C.is("VALUE 2 is 0", y.argument(6, 0), NONE);
        C.is("that number", y.number(6, 0), 0);
        C.is("VALUE 0 is MANY", y.argument(7, 0), 0);
        C.is("VALUE 5 is 0 at the END", y.ofPlace(0, 6), NONE);

        PhiHall w = withBlocks(3);
        load(w, 0, 2, 0);
        w.line(0, 1, 3, V2, 1);
        w.line(0, 3, 4, V1, 0);
        w.line(0, 5, 5, V5, 1);
        branch(w, 0, V5, 1, 2);
        give(w, 1, V3);
        w.form();
        C.is("uses of the LESS", w.ofValue(9, 4), 1);
        C.is("pass(1): the LESS and BLOCK 2; a LOAD is MANY, and so is what is made of MANY", w.pass(1), 2);
        C.is("left in 0", w.ofPlace(0, 1), 3);
        C.is("EDGES to 1", w.ofPlace(1, 5), 1);
        C.is("its RETURN", w.ofPlace(1, 6), 7);

        PhiHall z = new PhiHall();
        put(z, 0, 2, -64);
        z.line(0, 3, 2, V2, 64);
        z.line(0, 3, 2, V2, V2);
        z.line(0, 3, 2, V2, 64);
        z.line(0, 3, 2, V2, 2);
        z.line(0, 4, 3, V2, -1);
        z.line(0, 5, 4, V3, 0);
        give(z, 0, V3);
        z.run(0, 0);
        z.form();
        C.is("pass(1) of numbers that go round", z.pass(1), 6);
        C.is("the least one by -1", z.ofPlace(0, 7), Integer.MIN_VALUE);
        C.is("so does run", z.ofRun(1), Integer.MIN_VALUE);
    }

    private static void constantsOfWays() {
        PhiHall x = withBlocks(4);
        branch(x, 0, V0, 1, 2);
        put(x, 1, 2, 7);
        branch(x, 1, 5, 2, 2);
        give(x, 2, V2);
        x.form();
        C.is("EDGES to 2", x.ofPlace(2, 5), 3);
        C.is("pass(1) of an IF to the same", x.pass(1), 0);
        C.is("EDGES to 2 then", x.ofPlace(2, 5), 2);
        C.is("ARGUMENTS of the PHI", x.ofValue(6, 3), 2);
        C.is("its first: VALUE 2 is 0", x.argument(6, 0), NONE);
        C.is("its second", x.number(6, 1), 7);
        C.is("it is a JUMP", x.ofPlace(1, 2), 1);
        C.is("to 2", x.ofPlace(1, 3), 2);
        C.is("and nowhere else", x.ofPlace(1, 4), NONE);

        PhiHall y = withBlocks(5);
        put(y, 0, 2, 3);
        branch(y, 0, V2, 1, 2);
        jump(y, 1, 3);
        print(y, 2, 1);
        put(y, 2, 2, 4);
        branch(y, 2, V0, 3, 4);
        branch(y, 3, V2, 4, 3);
        give(y, 4, V2);
        y.form();
        C.is("pass(1): BLOCK 2, its PRINT, the PHIS of 3 and 4", y.pass(1), 4);
        C.is("the PRINT is GONE", y.ofValue(6, 1), NONE);
        C.is("BLOCK 2 is GONE", y.ofPlace(2, 0), 0);
        C.is("END of 3 is a JUMP", y.ofPlace(3, 2), 1);
        C.is("EDGES to 4", y.ofPlace(4, 5), 1);
        C.is("EDGE to 4", y.edge(4, 0), 3);
        C.is("RETURN 3", y.ofPlace(4, 7), 3);
        C.is("EDGES to 3", y.ofPlace(3, 5), 1);

        PhiHall z = withBlocks(3);
        branch(z, 0, 0, 1, 2);
        give(z, 1, 1);
        give(z, 2, 2);
        z.form();
        C.is("IF of 0 goes the other way", z.pass(1), 1);
        C.is("to 2", z.ofPlace(0, 3), 2);
        C.is("EDGE to 2", z.edge(2, 0), 0);
        C.is("the other one", z.ofPlace(0, 4), NONE);
        z.runForm(0, 0);
        C.is("returned", z.ofRun(1), 2);
        C.is("its COST", z.ofRun(3), 1);

        PhiHall w = withBlocks(5);
        branch(w, 0, 0, 1, 2);
        put(w, 1, 2, 9);
        jump(w, 1, 4);
        w.line(2, 1, 2, V0, 1);
        branch(w, 2, V1, 3, 4);
        w.line(3, 1, 2, V1, 1);
        jump(w, 3, 4);
        give(w, 4, V2);
        w.form();
        C.is("first ARGUMENT of the PHI", w.number(8, 0), 9);
        C.is("pass(1): BLOCK 1", w.pass(1), 1);
        C.is("first EDGE then", w.edge(4, 0), 2);
        C.is("second EDGE then", w.edge(4, 1), 3);
        C.is("first ARGUMENT then", w.argument(8, 0), 6);
        C.is("its number", w.number(8, 0), 0);
        C.is("second ARGUMENT then", w.argument(8, 1), 7);
        C.is("ARGUMENTS then", w.ofValue(8, 3), 2);
        C.is("no VALUE at the END that is a JUMP", w.ofPlace(0, 6), NONE);
    }

    private static void numbersOfReckonings() {
        C.part("promise 8, pass 2");
        PhiHall x = diamond();
        x.line(0, 1, 2, V0, V1);
        x.line(0, 1, 3, V1, V0);
        x.line(0, 2, 4, V0, V1);
        x.line(0, 2, 5, V1, V0);
        load(x, 0, 0, 1);
        load(x, 0, 1, 1);
        x.line(1, 3, 2, V0, 5);
        x.line(2, 3, 2, 5, V0);
        x.line(3, 3, 3, V0, 5);
        print(x, 3, V2);
        x.line(1, 2, 3, V0, 1);
        x.line(1, 2, 4, V0, 1);
        x.line(1, 4, 4, V0, 1);
        C.is("form()", x.form(), 6 + 6 + 4 + 1 + 1 + 2);
        C.is("pass(2): ADD in 0, SUB in 1", x.pass(2), 2);
        C.is("the crossed ADD", x.ofValue(7, 1), NONE);
        C.is("the crossed SUB stays", x.ofValue(9, 1), 0);
        C.is("LOADS stay", x.ofValue(11, 1), 0);
        C.is("MUL in a BLOCK that does not DOMINATE", x.ofValue(18, 1), 3);
        C.is("pass(2) again", x.pass(2), 0);

        PhiHall y = diamond();
        y.line(0, 5, 2, V0, 7);
        y.line(3, 5, 3, V0, 7);
        y.line(3, 1, 3, V3, 1);
        y.line(1, 1, 4, V2, 1);
        print(y, 3, V3);
        y.form();
        C.is("pass(2) over BLOCKS", y.pass(2), 1);
        C.is("ARGUMENT of the ADD", y.argument(9, 0), 6);

        PhiHall z = withBlocks(3);
        z.line(0, 1, 2, V0, 1);
        jump(z, 0, 1);
        branch(z, 1, V1, 2, 1);
        z.line(2, 1, 2, V0, 1);
        branch(z, 2, V2, 1, 1);
        print(z, 1, V2);
        z.form();
        C.is("pass(2): the ADD of 2", z.pass(2), 1);
        C.is("pass(2): now its PHI, too", z.pass(2), 1);
        C.is("pass(2): still", z.pass(2), 0);

        PhiHall w = withBlocks(2);
        w.line(0, 1, 2, V0, 1);
        jump(w, 0, 1);
        w.line(1, 1, 3, V0, 1);
        w.line(1, 1, 4, 1, V0);
        store(w, 1, V3, V4);
        w.form();
        w.pass(2);
        C.is("the first of these", w.argument(9, 0), 6);
        C.is("the first of these", w.argument(9, 1), 6);

        PhiHall u = new PhiHall();
        u.line(0, 1, 2, V0, 5);
        u.line(0, 1, 2, 5, V0);
        u.line(0, 1, 2, V0, 6);
        u.line(0, 1, 2, 5, V1);
        u.line(0, 1, 2, V0, V0);
        u.line(0, 1, 2, V5, 5);
        u.line(0, 2, 2, V0, 5);
        u.line(0, 1, 2, 0, 5);
        u.form();
        C.is("pass(2): one ADD in the other order", u.pass(2), 1);
        C.is("it", u.ofValue(7, 1), NONE);
    }

    private static void numbersOfPhis() {
        PhiHall x = diamond();
        put(x, 1, 2, 7);
        put(x, 2, 2, 7);
        put(x, 1, 3, 1);
        put(x, 2, 3, 2);
        put(x, 1, 4, 1);
        put(x, 2, 4, 2);
        put(x, 1, 5, 2);
        put(x, 2, 5, 1);
        print(x, 3, V2);
        print(x, 3, V3);
        print(x, 3, V4);
        print(x, 3, V5);
        x.form();
        C.is("pass(2): the PHIS of v2 and v4", x.pass(2), 2);
        C.is("printed v2", x.number(10, 0), 7);
        C.is("printed v3", x.argument(11, 0), 7);
        C.is("printed v4 is v3", x.argument(12, 0), 7);
        C.is("printed v5", x.argument(13, 0), 9);

        PhiHall z = diamond();
        z.line(1, 1, 2, V0, 1);
        put(z, 1, 3, V2);
        put(z, 1, 4, V2);
        put(z, 1, 5, V2);
        put(z, 2, 5, 1);
        put(z, 0, 4, V3);
        print(z, 3, V3);
        print(z, 3, V4);
        print(z, 3, V5);
        z.form();
        C.is("pass(2): the PHI of v4 as the first one of its BLOCK", z.pass(2), 1);
        C.is("printed v4 is v3", z.argument(11, 0), z.argument(10, 0));

        PhiHall w = withBlocks(4);
        jump(w, 0, 3);
        put(w, 3, 2, 4);
        branch(w, 3, V0, 1, 2);
        print(w, 1, V2);
        branch(w, 1, V1, 1, 2);
        put(w, 2, 2, 4);
        branch(w, 2, V1, 1, 3);
        w.form();
        C.is("PHI of 1: itself, 4, 4", w.number(6, 1) * 10 + w.number(6, 2), 44);
        C.is("itself", w.argument(6, 0), 6);
        C.is("pass(2): it is 4", w.pass(2), 1);
        C.is("the PRINT", w.number(7, 0), 4);

        PhiHall y = withBlocks(4);
        put(y, 0, 2, V1);
        put(y, 0, 3, 0);
        jump(y, 0, 1);
        branch(y, 1, V0, 2, 3);
        put(y, 2, 2, V2);
        y.line(2, 1, 3, V3, 1);
        put(y, 2, 4, V2);
        put(y, 2, 2, V4);
        y.line(2, 2, 0, V0, V2);
        jump(y, 2, 1);
        give(y, 3, V3);
        y.form();
        C.is("PHIS: v0, v3; v2 is set by a PUT of itself", y.many(6), 3);
        C.is("pass(2): a PHI of VALUE 1 and itself", y.pass(2), 1);
        C.is("uses of VALUE 1", y.ofValue(1, 4), 1);
    }

    private static void dead() {
        C.part("promise 8, pass 3");
        PhiHall x = withBlocks(3);
        jump(x, 0, 1);
        x.line(1, 1, 2, V2, 1);
        load(x, 1, 3, V2);
        x.line(1, 4, 4, V0, 5);
        x.line(1, 4, 4, V0, V1);
        x.line(1, 3, 5, V1, V1);
        x.line(1, 4, 4, V5, 0);
        branch(x, 1, V1, 1, 2);
        load(x, 2, 3, 2);
        print(x, 2, 3);
        store(x, 2, V3, 1);
        give(x, 2, 0);
        x.form();
        C.is("pass(3): PHI and ADD in a ring, LOAD, DIV by 5", x.pass(3), 4);
        C.is("left in 1: DIV by a VALUE, MUL, DIV by 0", x.ofPlace(1, 1), 3);
        C.is("left in 2", x.ofPlace(2, 1), 3);
        C.is("ARGUMENTS of what is GONE", x.ofValue(6, 3), 0);
        C.is("VALUE 2 is no ARGUMENT then", x.ofValue(2, 4), 0);
        C.is("pass(3) again", x.pass(3), 0);
        PhiHall y = loop();
        y.form();
        C.is("pass(3): what an END needs stays", y.pass(3), 0);
    }

    private static void join() {
        C.part("promise 8, pass 4");
        PhiHall x = withBlocks(5);
        branch(x, 0, V0, 2, 3);
        print(x, 3, 1);
        jump(x, 3, 1);
        print(x, 1, 2);
        put(x, 1, 2, 5);
        jump(x, 1, 4);
        jump(x, 2, 4);
        give(x, 4, V2);
        x.form();
        C.is("EDGE 0 to 4", x.edge(4, 0), 1);
        C.is("PHI from it", x.number(8, 0), 5);
        C.is("pass(4)", x.pass(4), 1);
        C.is("EDGE 0 to 4 is from 3 then, where it stood", x.edge(4, 0), 3);
        C.is("EDGE 1 to 4", x.edge(4, 1), 2);
        C.is("PHI from it", x.number(8, 0), 5);
        C.is("VALUE of 1 is in 3", x.ofValue(6, 1), 3);
        C.is("behind its own", x.valueAt(3, 1), 6);
        C.is("first its own", x.valueAt(3, 0), 7);
        C.is("END of 3", x.ofPlace(3, 3), 4);
        x.runForm(0, 0);
        C.is("returned", x.ofRun(1), 5);

        PhiHall y = withBlocks(4);
        jump(y, 0, 1);
        jump(y, 1, 2);
        print(y, 1, V2);
        y.line(1, 1, 2, V2, 1);
        jump(y, 2, 3);
        jump(y, 3, 1);
        y.form();
        C.is("pass(4) of a ring: 2 and 3", y.pass(4), 2);
        C.is("JUMP of 1 to itself", y.ofPlace(1, 3), 1);
        C.is("EDGES to 1", y.ofPlace(1, 5), 2);
        C.is("EDGE from 0", y.edge(1, 0), 0);
        C.is("EDGE from itself", y.edge(1, 1), 1);
        C.is("PHI stays", y.many(6), 1);
        C.is("pass(4) again", y.pass(4), 0);

        PhiHall z = withBlocks(4);
        branch(z, 0, 1, 1, 2);
        put(z, 1, 2, V1);
        jump(z, 1, 3);
        put(z, 2, 2, 4);
        jump(z, 2, 3);
        print(z, 3, V2);
        z.form();
        C.is("pass(1): BLOCK 2", z.pass(1), 1);
        C.is("pass(4): BLOCKS 1 and 3, the PHI", z.pass(4), 3);
        C.is("the PRINT has its ARGUMENT", z.argument(7, 0), 1);
        C.is("passes", z.many(9), 2);
        C.is("GONE by these", z.many(10), 4);

        PhiHall w = withBlocks(2);
        jump(w, 0, 1);
        branch(w, 1, V0, 1, 1);
        w.form();
        C.is("pass(4): three EDGES", w.pass(4), 0);

        PhiHall u = withBlocks(4);
        jump(u, 0, 1);
        u.line(1, 1, 2, V0, V1);
        branch(u, 1, V2, 2, 3);
        give(u, 2, V0);
        give(u, 3, 8);
        u.form();
        C.is("pass(4): 1", u.pass(4), 1);
        C.is("KIND of the END of 1 at 0", u.ofPlace(0, 2), 2);
        C.is("VALUE of the END of 1 at 0", u.ofPlace(0, 6), 6);
        C.is("uses of it", u.ofValue(6, 4), 1);
        C.is("to 2", u.ofPlace(0, 3), 2);
        C.is("or to 3", u.ofPlace(0, 4), 3);
        C.is("EDGE to 3", u.edge(3, 0), 0);
        C.is("VALUES in 0", u.many(5), 1);
        C.is("pass(3): the END needs it", u.pass(3), 0);
    }

    private static void ofPlace() {
        C.part("promise 9");
        PhiHall x = loop();
        x.block();
        C.throwing(x, "ofPlace(0, 9) without a FORM", OUT, () -> x.ofPlace(0, 9));
        x.form();
        x.block();
        C.throwing(x, "ofPlace(5, 9), told later", OUT, () -> x.ofPlace(5, 9));
        C.throwing(x, "ofPlace(-1, 0)", OUT, () -> x.ofPlace(-1, 0));
        C.throwing(x, "ofPlace(0, 8)", WRONG, () -> x.ofPlace(0, 8));
        C.throwing(x, "ofPlace(4, -1)", WRONG, () -> x.ofPlace(4, -1));
        int[][] want = {{1, 0, 1, 1, NONE, 0, NONE, 0}, {1, 3, 2, 2, 3, 2, 8, 0}, {1, 2, 1, 1, NONE, 1, NONE, 0},
            {1, 1, 0, NONE, NONE, 1, 7, 0}, {0, 0, 0, 0, 0, 0, 0, 0}};
        for (int block = 0; block < want.length; block++) {
            for (int what = 0; what <= 7; what++) {
                C.is("ofPlace(" + block + ", " + what + ")", x.ofPlace(block, what), want[block][what]);
            }
        }
        give(x, 3, -9);
        C.is("told later", x.ofPlace(3, 6), 7);
        x.form();
        C.is("RETURN of a number", x.ofPlace(3, 6), NONE);
        C.is("that number", x.ofPlace(3, 7), -9);
        C.is("BLOCK 5 now", x.ofPlace(5, 0), 0);
    }

    private static void valueAt() {
        C.part("promise 10");
        PhiHall x = loop();
        C.throwing(x, "valueAt without a FORM", OUT, () -> x.valueAt(1, 0));
        x.block();
        x.form();
        C.is("valueAt(1, 0)", x.valueAt(1, 0), 6);
        C.is("valueAt(1, 2)", x.valueAt(1, 2), 8);
        C.is("valueAt(2, 1)", x.valueAt(2, 1), 10);
        C.throwing(x, "valueAt(1, 3)", OUT, () -> x.valueAt(1, 3));
        C.throwing(x, "valueAt(1, -1)", OUT, () -> x.valueAt(1, -1));
        C.throwing(x, "valueAt(0, 0)", OUT, () -> x.valueAt(0, 0));
        C.throwing(x, "valueAt(4, 0), not THERE", OUT, () -> x.valueAt(4, 0));
        C.throwing(x, "valueAt(5, 0)", OUT, () -> x.valueAt(5, 0));
        C.throwing(x, "valueAt(-1, 0)", OUT, () -> x.valueAt(-1, 0));
    }

    private static void edge() {
        C.part("promise 11");
        PhiHall x = withBlocks(5);
        C.throwing(x, "edge without a FORM", OUT, () -> x.edge(0, 0));
        branch(x, 0, V0, 3, 2);
        branch(x, 2, V1, 3, 3);
        jump(x, 3, 1);
        branch(x, 1, V0, 3, 1);
        jump(x, 4, 3);
        x.form();
        int[] from = {0, 1, 2, 2};
        C.is("EDGES to 3", x.ofPlace(3, 5), 4);
        for (int k = 0; k < from.length; k++) {
            C.is("edge(3, " + k + ")", x.edge(3, k), from[k]);
        }
        C.is("edge(1, 0)", x.edge(1, 0), 1);
        C.is("edge(1, 1)", x.edge(1, 1), 3);
        C.throwing(x, "edge(3, 4)", OUT, () -> x.edge(3, 4));
        C.throwing(x, "edge(3, -1)", OUT, () -> x.edge(3, -1));
        C.throwing(x, "edge(0, 0)", OUT, () -> x.edge(0, 0));
        C.throwing(x, "edge(4, 0), not THERE", OUT, () -> x.edge(4, 0));
        C.throwing(x, "edge(-1, 0)", OUT, () -> x.edge(-1, 0));
        C.throwing(x, "edge(10, 0)", OUT, () -> x.edge(10, 0));
    }

    private static void ofValue() {
        C.part("promise 12");
        PhiHall x = loop();
        C.throwing(x, "ofValue without a FORM", OUT, () -> x.ofValue(0, 9));
        x.form();
        C.throwing(x, "ofValue(12, 9)", OUT, () -> x.ofValue(12, 9));
        C.throwing(x, "ofValue(-1, 0)", OUT, () -> x.ofValue(-1, 0));
        C.throwing(x, "ofValue(0, 5)", WRONG, () -> x.ofValue(0, 5));
        C.throwing(x, "ofValue(0, -1)", WRONG, () -> x.ofValue(0, -1));
        int[][] want = {{10, NONE, NONE, 0, 1}, {10, NONE, NONE, 0, 0}, {10, NONE, NONE, 0, 0}, {10, NONE, NONE, 0, 0},
            {10, NONE, NONE, 0, 0}, {10, NONE, NONE, 0, 0}, {9, 1, 0, 2, 3}, {9, 1, 2, 2, 3}, {5, 1, NONE, 2, 1},
            {1, 2, NONE, 2, 1}, {2, 2, NONE, 2, 1}, {8, 3, NONE, 1, 0}};
        for (int value = 0; value < want.length; value++) {
            for (int what = 0; what <= 4; what++) {
                C.is("ofValue(" + value + ", " + what + ")", x.ofValue(value, what), want[value][what]);
            }
        }
        x.cut(3);
        give(x, 3, 0);
        x.form();
        x.pass(3);
        int[] gone = {9, NONE, 2, 0, 0};
        for (int what = 0; what <= 4; what++) {
            C.is("ofValue(7, " + what + ") when it is GONE", x.ofValue(7, what), gone[what]);
        }
        PhiHall y = new PhiHall();
        y.line(0, 3, 2, V1, V1);
        load(y, 0, 3, 1);
        store(y, 0, V1, V3);
        give(y, 0, V1);
        y.form();
        C.is("uses of VALUE 1, the END's with them", y.ofValue(1, 4), 4);
        C.is("ARGUMENTS of a LOAD", y.ofValue(7, 3), 1);
        C.is("ARGUMENTS of a STORE", y.ofValue(8, 3), 2);
    }

    private static void argumentAndNumber() {
        C.part("promises 13 and 14");
        PhiHall x = new PhiHall();
        C.throwing(x, "argument without a FORM", OUT, () -> x.argument(0, 0));
        C.throwing(x, "number without a FORM", OUT, () -> x.number(0, 0));
        x.line(0, 2, 2, V1, -5);
        put(x, 0, 3, V2);
        store(x, 0, 99, V3);
        x.form();
        C.is("argument(6, 0)", x.argument(6, 0), 1);
        C.is("number(6, 0)", x.number(6, 0), 0);
        C.is("argument(6, 1)", x.argument(6, 1), NONE);
        C.is("number(6, 1)", x.number(6, 1), -5);
        C.is("argument(7, 0)", x.argument(7, 0), NONE);
        C.is("number(7, 0)", x.number(7, 0), 99);
        C.is("argument(7, 1)", x.argument(7, 1), 6);
        int[][] wrong = {{6, 2}, {6, -1}, {5, 0}, {8, 0}, {-1, 0}, {500, 0}};
        for (int[] w : wrong) {
            C.throwing(x, "argument(" + w[0] + ", " + w[1] + ")", OUT, () -> x.argument(w[0], w[1]));
            C.throwing(x, "number(" + w[0] + ", " + w[1] + ")", OUT, () -> x.number(w[0], w[1]));
        }
        x.cut(0);
        x.form();
        x.pass(3);
        C.throwing(x, "argument of what is GONE", OUT, () -> x.argument(6, 0));
        C.throwing(x, "number of what is GONE", OUT, () -> x.number(6, 0));
    }

    private static void run() {
        C.part("promise 15");
        PhiHall x = loop();
        C.is("run(3, 0)", x.run(3, 0), 0);
        C.is("returned", x.ofRun(1), 6);
        C.is("COST", x.ofRun(3), 23);
        C.is("ENDS", x.ofRun(4), 9);
        C.is("run(500, 0) is CUT", x.run(500, 0), 2);
        C.is("ENDS of that", x.ofRun(4), 300);
        C.is("returned of that", x.ofRun(1), 0);
        C.is("COST of that: 1, 150 LESS and 149 IF, 150 bodies", x.ofRun(3), 1 + 150 + 2 * 150 + 2 * 150 + 149);

        PhiHall y = new PhiHall();
        store(y, 0, -1, V0);
        store(y, 0, 18, V1);
        load(y, 0, 2, 7);
        load(y, 0, 3, -6);
        y.line(0, 4, 4, V2, V3);
        y.line(0, 3, 4, V4, 3);
        print(y, 0, V4);
        give(y, 0, V5);
        C.is("run(-17, 5)", y.run(-17, 5), 0);
        C.is("printed", y.printed(0), -9);
        C.is("COST", y.ofRun(3), 4 * 4 + 8 + 3 + 1);
        C.is("returned what v5 begins with", y.ofRun(1), 0);
        C.is("run(1, 0) is a TRAP", y.run(1, 0), 1);
        C.is("COST of that", y.ofRun(3), 4 * 4 + 8);
        C.is("ENDS of that", y.ofRun(4), 0);
        C.is("printed of that", y.ofRun(2), 0);
        C.is("CELL of that", y.cell(7), 1);
        C.is("the next one begins anew", y.run(0, 1), 0);
        C.is("least by -1", y.run(Integer.MIN_VALUE, -1), 0);
        C.is("printed", y.printed(0), Integer.MIN_VALUE * 3);

        PhiHall z = withBlocks(3);
        z.line(0, 2, 2, V0, V1);
        z.line(0, 5, 3, V0, V1);
        print(z, 0, V3);
        branch(z, 0, V2, 1, 2);
        give(z, 1, 1);
        give(z, 2, 2);
        C.is("IF above 0", z.run(2, 1) * 10 + z.ofRun(1), 1);
        C.is("IF of 0", z.run(1, 1) * 10 + z.ofRun(1), 2);
        C.is("LESS of the same", z.printed(0), 0);
        C.is("IF below 0", z.run(0, 1) * 10 + z.ofRun(1), 2);
        C.is("LESS", z.printed(0), 1);
        C.is("COST of SUB, LESS, PRINT, IF", z.ofRun(3), 5);
        lastEnd();
    }

    /** The 300th END may be a RETURN, the 301st one may not. */
    private static void lastEnd() {
        PhiHall x = withBlocks(3);
        jump(x, 0, 1);
        x.line(1, 2, 0, V0, 1);
        branch(x, 1, V0, 1, 2);
        give(x, 2, 7);
        C.is("300 ENDS", x.run(298, 0), 0);
        C.is("returned", x.ofRun(1), 7);
        C.is("how many", x.ofRun(4), 300);
        C.is("301 ENDS", x.run(299, 0), 2);
        C.is("returned", x.ofRun(1), 0);
        C.is("how many", x.ofRun(4), 300);
        x.form();
        C.is("300 ENDS of the FORM", x.runForm(298, 0), 0);
        C.is("301 ENDS of the FORM", x.runForm(299, 0), 2);
        C.is("how many", x.ofRun(4), 300);
        print(x, 2, 4);
        x.run(299, 0);
        C.is("LINES ahead of the 301st END are done", x.ofRun(2), 1);
    }

    private static void runForm() {
        C.part("promise 16");
        PhiHall x = loop();
        C.throwing(x, "runForm without a FORM", STATE, () -> x.runForm(0, 0));
        x.form();
        C.is("runForm(3, 0)", x.runForm(3, 0), 0);
        C.is("returned", x.ofRun(1), 6);
        C.is("printed", x.printed(0), 6);
        C.is("COST", x.ofRun(3), 23);
        C.is("ENDS", x.ofRun(4), 9);
        give(x, 0, 1);
        x.runForm(3, 0);
        C.is("told later", x.ofRun(1), 6);

        PhiHall y = withBlocks(3);
        put(y, 0, 2, 1);
        put(y, 0, 3, 2);
        jump(y, 0, 1);
        print(y, 1, V2);
        put(y, 1, 4, V2);
        put(y, 1, 2, V3);
        put(y, 1, 3, V4);
        y.line(1, 2, 0, V0, 1);
        branch(y, 1, V0, 1, 2);
        y.form();
        y.runForm(4, 0);
        int[] want = {1, 2, 1, 2};
        C.is("how many are printed", y.ofRun(2), 4);
        for (int k = 0; k < want.length; k++) {
            C.is("PHIS that change places, printed(" + k + ")", y.printed(k), want[k]);
        }

        PhiHall z = new PhiHall();
        z.line(0, 4, 2, V0, V1);
        z.form();
        C.is("a TRAP", z.runForm(1, 0), 1);
        C.is("its COST", z.ofRun(3), 8);
        C.is("none", z.runForm(1, 1), 0);
    }

    private static void ofRun() {
        C.part("promise 17");
        PhiHall x = loop();
        for (int what = 0; what <= 5; what++) {
            C.is("ofRun(" + what + ") ahead of all", x.ofRun(what), 0);
        }
        C.throwing(x, "ofRun(6)", WRONG, () -> x.ofRun(6));
        C.throwing(x, "ofRun(-1)", WRONG, () -> x.ofRun(-1));
        x.run(2, 0);
        x.form();
        x.runForm(3, 0);
        int[] want = {0, 6, 1, 23, 9, 2};
        for (int what = 0; what <= 5; what++) {
            C.is("ofRun(" + what + ")", x.ofRun(what), want[what]);
        }
        x.wouldCost(1, 9, 9);
        x.isAlike(9, 9);
        C.is("runs that would be are none", x.ofRun(5), 2);
        C.is("and leave the latest one", x.ofRun(1), 6);
    }

    private static void printed() {
        C.part("promise 18");
        PhiHall x = withBlocks(3);
        C.throwing(x, "printed(0) ahead of all", OUT, () -> x.printed(0));
        jump(x, 0, 1);
        print(x, 1, V0);
        x.line(1, 2, 0, V0, 1);
        branch(x, 1, V0, 1, 2);
        x.run(70, 0);
        C.is("how many", x.ofRun(2), 70);
        C.is("printed(0)", x.printed(0), 70);
        C.is("printed(59)", x.printed(59), 11);
        C.throwing(x, "printed(60)", OUT, () -> x.printed(60));
        C.throwing(x, "printed(-1)", OUT, () -> x.printed(-1));
        x.run(2, 0);
        C.is("printed(1)", x.printed(1), 1);
        C.throwing(x, "printed(2)", OUT, () -> x.printed(2));
    }

    private static void cell() {
        C.part("promise 19");
        PhiHall x = new PhiHall();
        C.throwing(x, "cell(8)", OUT, () -> x.cell(8));
        C.throwing(x, "cell(-1)", OUT, () -> x.cell(-1));
        for (int cell = 0; cell < 8; cell++) {
            C.is("cell ahead of all", x.cell(cell), 0);
        }
        store(x, 0, V0, V1);
        x.run(Integer.MIN_VALUE, 3);
        C.is("cell(0)", x.cell(0), 3);
        x.run(Integer.MAX_VALUE, 4);
        C.is("cell(7)", x.cell(7), 4);
        C.is("cell(0) begins with 0 again", x.cell(0), 0);
        x.run(-3, 5);
        C.is("cell(5)", x.cell(5), 5);
        x.form();
        x.runForm(-8, 6);
        C.is("cell(0) of the FORM", x.cell(0), 6);
    }

    private static void many() {
        C.part("promise 20");
        PhiHall x = loop();
        x.block();
        print(x, 4, 1);
        C.throwing(x, "many(11)", WRONG, () -> x.many(11));
        C.throwing(x, "many(-1)", WRONG, () -> x.many(-1));
        int[] told = {5, 4, 6, 0, 0, 0, 0, 0, 0, 0, 0};
        for (int what = 0; what <= 10; what++) {
            C.is("many(" + what + ")", x.many(what), told[what]);
        }
        x.form();
        int[] made = {5, 4, 6, 1, 12, 6, 2, 4, 4, 0, 0};
        for (int what = 0; what <= 10; what++) {
            C.is("many(" + what + ") with a FORM", x.many(what), made[what]);
        }
        x.cut(3);
        give(x, 3, 0);
        x.form();
        C.is("pass(3): PHI and ADD", x.pass(3), 2);
        x.wouldGo(4);
        int[] then = {5, 4, 5, 1, 11, 3, 1, 4, 4, 1, 2};
        for (int what = 0; what <= 10; what++) {
            C.is("many(" + what + ") behind a pass", x.many(what), then[what]);
        }
    }

    private static void meanCost() {
        C.part("promise 21");
        PhiHall x = loop();
        C.isDouble("meanCost() ahead of all", x.meanCost(), 0.0);
        x.run(3, 0);
        x.form();
        x.runForm(0, 0);
        C.isDouble("meanCost()", x.meanCost(), (23 + 5) / 2.0);
        x.run(500, 0);
        C.isDouble("meanCost() with one that is CUT", x.meanCost(), (23 + 5 + 900) / 3.0);
        x.wouldCost(0, 1, 1);
        C.isDouble("meanCost() still", x.meanCost(), 928.0 / 3);
    }

    private static void wouldGo() {
        C.part("promise 22");
        PhiHall x = loop();
        C.throwing(x, "wouldGo(0) without a FORM", WRONG, () -> x.wouldGo(0));
        C.throwing(x, "wouldGo(1) without a FORM", STATE, () -> x.wouldGo(1));
        branch(x, 0, V5, 3, 1);
        x.line(1, 5, 4, 0, V0);
        x.form();
        C.throwing(x, "wouldGo(5)", WRONG, () -> x.wouldGo(5));
        long before = x.digest();
        int[] would = new int[5];
        for (int pass = 1; pass <= 4; pass++) {
            would[pass] = x.wouldGo(pass);
        }
        C.is("digest behind wouldGo", x.digest(), before);
        for (int pass = 1; pass <= 4; pass++) {
            C.is("pass(" + pass + ")", x.pass(pass), would[pass]);
            x.form();
        }
        C.is("pass(3) takes the second LESS", would[3], 1);
        C.is("pass(2) takes it, too", would[2], 1);
    }

    private static void wouldCost() {
        C.part("promise 23");
        PhiHall x = withBlocks(3);
        C.throwing(x, "wouldCost(6) without a FORM", WRONG, () -> x.wouldCost(6, 0, 0));
        C.throwing(x, "wouldCost(-1) without a FORM", WRONG, () -> x.wouldCost(-1, 0, 0));
        C.throwing(x, "wouldCost(0) without a FORM", STATE, () -> x.wouldCost(0, 0, 0));
        x.line(0, 3, 2, 3, 4);
        branch(x, 0, V2, 1, 2);
        x.line(1, 4, 3, V0, 2);
        x.line(1, 4, 4, V0, V1);
        x.line(1, 4, 5, V0, V1);
        print(x, 1, V5);
        x.form();
        C.throwing(x, "wouldCost(6)", WRONG, () -> x.wouldCost(6, 0, 0));
        long before = x.digest();
        C.is("wouldCost(0)", x.wouldCost(0, 4, 2), 3 + 2 + 3 * 8 + 1);
        C.is("wouldCost(1)", x.wouldCost(1, 4, 2), 8 + 1);
        C.is("wouldCost(5)", x.wouldCost(5, 4, 2), 8 + 1);
        C.is("wouldCost(1) of a TRAP", x.wouldCost(1, 4, 0), 8);
        C.is("digest", x.digest(), before);
        C.is("runs", x.ofRun(5), 0);
        rounds();
    }

    /** A round does the passes 1, 2, 3, 4, one behind the other. */
    private static void rounds() {
        PhiHall x = diamond();
        x.line(0, 1, 3, V1, 1);
        put(x, 0, 2, 1);
        branch(x, 3, V2, 1, 3);
        x.line(1, 2, 4, V1, V1);
        x.line(3, 2, 2, 1, V2);
        x.form();
        int[] costs = new int[6];
        for (int passes = 0; passes <= 5; passes++) {
            costs[passes] = x.wouldCost(passes, 3, -2);
        }
        for (int passes = 0; passes <= 5; passes++) {
            x.runForm(3, -2);
            C.is("runForm behind " + passes + " rounds", x.ofRun(3), costs[passes]);
            for (int pass = 1; pass <= 4; pass++) {
                x.pass(pass);
            }
        }
    }

    private static void untilStill() {
        C.part("promise 24");
        PhiHall x = loop();
        C.throwing(x, "untilStill without a FORM", STATE, x::untilStill);
        x.form();
        C.is("untilStill() of what is still", x.untilStill(), 4);
        PhiHall y = withBlocks(2);
        jump(y, 0, 1);
        y.form();
        long before = y.digest();
        C.is("untilStill() with a JOIN in pass 4", y.untilStill(), 8);
        C.is("digest", y.digest(), before);
        put(y, 0, 2, 3);
        y.line(0, 1, 2, V2, V2);
        give(y, 0, V2);
        y.form();
        C.is("untilStill() with a number in pass 1", y.untilStill(), 5);
        PhiHall z = new PhiHall();
        z.line(0, 1, 2, V0, V1);
        z.form();
        C.is("untilStill() with a DEAD one in pass 3", z.untilStill(), 7);
        y.pass(1);
        C.is("untilStill() behind that", y.untilStill(), 4);
        C.is("untilStill() of what is not still behind 40", climbed().untilStill(), 40);
    }

    private static PhiHall climbed() {
        PhiHall x = ladder(10);
        for (int round = 0; round < 8; round++) {
            C.is("pass(2) of the ladder, " + round, x.pass(2), 1);
        }
        C.is("pass(2) of the ladder: the last PHI of v2, the ADD of 1, the PHI of 9", x.pass(2), 3);
        for (int round = 0; round < 8; round++) {
            C.is("pass(2) of the ladder, the PHIS of v3, " + round, x.pass(2), 1);
        }
        C.is("pass(2) of the ladder at last", x.pass(2), 0);
        x.form();
        return x;
    }

    private static void isAlike() {
        C.part("promise 25");
        PhiHall x = withBlocks(3);
        C.throwing(x, "isAlike without a FORM", STATE, () -> x.isAlike(0, 0));
        jump(x, 0, 1);
        print(x, 1, V2);
        x.line(1, 1, 2, V2, 1);
        x.line(1, 5, 3, V2, 70);
        branch(x, 1, V3, 1, 2);
        print(x, 2, 4);
        give(x, 2, 1);
        x.form();
        long before = x.digest();
        C.holds("isAlike", x.isAlike(0, 0));
        C.is("digest", x.digest(), before);
        put(x, 0, 2, 1);
        x.line(0, 2, 2, V2, V1);
        C.holds("the first PRINTED is another one", !x.isAlike(0, -99));
        C.holds("the same", x.isAlike(0, 1));
        x.cut(0);
        x.cut(0);
        x.cut(2);
        C.holds("one fewer PRINTED", !x.isAlike(0, 0));
        print(x, 2, 5);
        C.holds("the 71st PRINTED is another one", !x.isAlike(0, 0));
        x.cut(2);
        print(x, 2, 4);
        give(x, 2, 2);
        C.holds("another one RETURNED", !x.isAlike(0, 0));
        give(x, 2, 1);
        store(x, 2, 3, V0);
        C.holds("a CELL is another one", !x.isAlike(1, 0));
        C.holds("a CELL is the same", x.isAlike(0, 0));
        x.cut(2);
        store(x, 2, 0, V0);
        C.holds("the CELL 0 is another one", !x.isAlike(1, 0));
        x.cut(2);
        x.line(2, 4, 2, 1, V1);
        C.holds("it ends by a TRAP", !x.isAlike(0, 0));
        C.holds("it ends by no TRAP: COST aside", x.isAlike(0, 1));
        give(x, 2, 0);
        x.form();
        give(x, 2, V5);
        x.cut(2);
        x.line(2, 4, 2, V1, 0);
        C.holds("both by a TRAP", x.isAlike(0, 0));
        C.holds("just one by a TRAP", !x.isAlike(0, 1));

        PhiHall z = new PhiHall();
        print(z, 0, V0);
        print(z, 0, 2);
        z.form();
        z.cut(0);
        z.cut(0);
        print(z, 0, 1);
        print(z, 0, 2);
        C.holds("just the first PRINTED is another one", !z.isAlike(0, 0));
        C.holds("the first PRINTED is the same", z.isAlike(1, 0));

        PhiHall y = withBlocks(3);
        jump(y, 0, 1);
        print(y, 1, 1);
        jump(y, 1, 2);
        jump(y, 2, 1);
        y.form();
        C.holds("both are CUT", y.isAlike(0, 0));
        y.pass(4);
        C.holds("both are CUT, but the FORM comes further", !y.isAlike(0, 0));
    }

    private static long fold(long d, long v) {
        return d * 31 + v;
    }

    private static long digestOf(PhiHall x) {
        long d = 7605;
        for (int w = 0; w <= 10; w++) d = fold(d, x.many(w));
        for (int b = 0; b < x.many(0); b++) for (int w = 0; w <= 5; w++) d = fold(d, x.ofBlock(b, w));
        for (int w = 0; w <= 5; w++) d = fold(d, x.ofRun(w));
        for (int k = 0; k < Math.min(60, x.ofRun(2)); k++) d = fold(d, x.printed(k));
        for (int c = 0; c < 8; c++) d = fold(d, x.cell(c));
        if (x.many(3) == 0) return d;
        for (int b = 0; isPlace(x, b); b++) {
            for (int w = 0; w <= 7; w++) d = fold(d, x.ofPlace(b, w));
            if (x.ofPlace(b, 0) == 0) continue;
            for (int k = 0; k < x.ofPlace(b, 5); k++) d = fold(d, x.edge(b, k));
            for (int k = 0; k < x.ofPlace(b, 1); k++) d = fold(d, x.valueAt(b, k));
        }
        for (int v = 0; v < x.many(4); v++) {
            for (int w = 0; w <= 4; w++) d = fold(d, x.ofValue(v, w));
            for (int k = 0; k < x.ofValue(v, 3); k++) d = fold(fold(d, x.argument(v, k)), x.number(v, k));
        }
        for (int p = 1; p <= 4; p++) d = fold(d, x.wouldGo(p));
        return fold(fold(d, x.wouldCost(0, 3, -2)), x.wouldCost(2, 3, -2));
    }

    private static boolean isPlace(PhiHall x, int block) {
        try {
            x.ofPlace(block, 0);
            return true;
        } catch (IndexOutOfBoundsException e) {
            return false;
        }
    }

    private static void digest() {
        C.part("promise 26");
        PhiHall x = loop();
        C.is("digest of a new object", new PhiHall().digest(), -1900493045646057557L);
        C.is("digest without a FORM", x.digest(), digestOf(x));
        x.run(70, 1);
        C.is("digest behind a run", x.digest(), digestOf(x));
        x.form();
        C.is("digest with a FORM", x.digest(), digestOf(x));
        x.block();
        print(x, 4, V5);
        C.is("digest with more told than made", x.digest(), digestOf(x));
        x.cut(3);
        give(x, 3, 1);
        branch(x, 0, V5, 2, 4);
        x.form();
        for (int pass = 1; pass <= 4; pass++) {
            x.pass(pass);
            x.runForm(pass, 70);
            C.is("digest behind the pass " + pass, x.digest(), digestOf(x));
        }
        C.is("digest twice", x.digest(), x.digest());

        PhiHall y = withBlocks(4);
        y.line(0, 1, 2, V0, 1);
        y.line(0, 1, 3, V2, 1);
        y.line(0, 1, 4, V3, 1);
        print(y, 0, V4);
        jump(y, 0, 1);
        jump(y, 1, 2);
        y.line(2, 1, 4, V3, 1);
        y.line(2, 1, 3, V2, 1);
        y.line(2, 1, 2, V0, 1);
        branch(y, 2, V1, 1, 3);
        give(y, 3, V4);
        y.form();
        C.holds("a third round would make it cheaper", y.wouldCost(3, 3, -2) < y.wouldCost(2, 3, -2));
        C.holds("a second round would, too", y.wouldCost(2, 3, -2) < y.wouldCost(1, 3, -2));
        C.is("digest of two rounds", y.digest(), digestOf(y));
    }

    public static void main(String[] args) {
        newObject();
        block();
        line();
        cut();
        end();
        ofBlock();
        form();
        pass();
        ofPlace();
        valueAt();
        edge();
        ofValue();
        argumentAndNumber();
        run();
        runForm();
        ofRun();
        printed();
        cell();
        many();
        meanCost();
        wouldGo();
        wouldCost();
        untilStill();
        isAlike();
        digest();
        C.finish();
    }
}
