import java.util.function.Consumer;
import java.util.function.Supplier;

/**
 * Each 'Throws .. if ..' of the document: the last case that is allowed, the first that is not, which
 * exception is thrown, and that nothing is changed by it: an object that refused a call answers all
 * that one answers of which it was never asked.
 */
public final class RefusedTest extends Programs {
    private static final Class<IndexOutOfBoundsException> OUT = IndexOutOfBoundsException.class;
    private static final Class<IllegalArgumentException> WRONG = IllegalArgumentException.class;
    private static final Class<IllegalStateException> STATE = IllegalStateException.class;
    private static final int LEAST = Integer.MIN_VALUE;
    private static final int MOST = Integer.MAX_VALUE;

    private static final Check C = new Check("RefusedTest");

    private static void refused(String call, Class<? extends RuntimeException> due, Supplier<PhiHall> maker, Consumer<PhiHall> body) {
        PhiHall x = maker.get();
        PhiHall y = maker.get();
        C.throwing(x, call, due, () -> body.accept(x));
        C.same(call + " changes nothing", Picture.of(x), Picture.of(y));
        C.same(call + " changes nothing that shows later", Picture.behind(x), Picture.behind(y));
    }

    /** 4 BLOCKS, a run behind them, no FORM. */
    private static PhiHall told() {
        PhiHall x = loop();
        x.run(2, 0);
        return x;
    }

    /** 4 BLOCKS, of which 2 is not REACHED, a FORM with passes over it, by which 1 is GONE, and a run of it. */
    private static PhiHall made() {
        PhiHall x = loop();
        branch(x, 0, V4, 3, 1);
        branch(x, 1, V3, 3, 3);
        x.line(1, 1, 5, V0, 7);
        store(x, 3, V0, V5);
        x.form();
        x.pass(1);
        x.pass(3);
        x.pass(4);
        x.runForm(5, 1);
        return x;
    }

    private static PhiHall madeAndToldMore() {
        PhiHall x = made();
        x.block();
        jump(x, 3, 4);
        print(x, 4, V1);
        return x;
    }

    private static PhiHall filled() {
        PhiHall x = full();
        x.form();
        x.run(1, 2);
        return x;
    }

    private static void block() {
        C.part("Promise 2, 'Throws IllegalStateException if there are 10'");
        C.is("block() with 9", withBlocks(9).block(), 9);
        refused("block() with 10", STATE, () -> withBlocks(10), PhiHall::block);
        refused("block() with 10 that are full", STATE, RefusedTest::filled, PhiHall::block);
    }

    private static void lineOfNoBlock() {
        C.part("Promise 3, 'Throws IndexOutOfBoundsException if there is no such BLOCK'");
        C.is("line(3, ..) of 4", told().line(3, 0, 0, 0, 0), 1);
        for (int block : new int[] {-1, 4, 10, LEAST, MOST}) {
            refused("line(" + block + ", ..) of 4", OUT, RefusedTest::told, x -> x.line(block, 0, 0, 0, 0));
        }
        refused("line(10, ..) of 10", OUT, () -> withBlocks(10), x -> x.line(10, 0, 0, 0, 0));
        refused("line(1, ..) of 1", OUT, PhiHall::new, x -> x.line(1, 0, 0, 0, 0));
        refused("line(4, 9, ..): named first", OUT, RefusedTest::told, x -> x.line(4, 9, -1, 106, -100));
    }

    private static void lineOfAWrongKind() {
        C.part("Promise 3, 'IllegalArgumentException if kind is not 0 to 8'");
        C.is("kind 0", new PhiHall().line(0, 0, 0, 0, 0), 0);
        C.is("kind 8", new PhiHall().line(0, 8, 0, 0, 0), 0);
        for (int kind : new int[] {-1, 9, 10, LEAST, MOST}) {
            refused("kind " + kind, WRONG, RefusedTest::made, x -> x.line(3, kind, 0, 0, 0));
        }
        refused("kind 9 where there are 8: named first", WRONG, RefusedTest::filled, x -> x.line(2, 9, 0, 0, 0));
    }

    private static boolean namesD(int kind) {
        return kind <= 6;
    }

    private static boolean namesQ(int kind) {
        return kind >= 1 && kind <= 5 || kind == 7;
    }

    private static void lineOfAWrongVariable() {
        C.part("Promise 3, 'or d .. is not as section 1 says'");
        for (int kind = 0; kind <= 8; kind++) {
            int k = kind;
            C.is("d 0 of kind " + kind, new PhiHall().line(0, kind, 0, 0, 0), 0);
            if (namesD(kind)) {
                C.is("d 5 of kind " + kind, new PhiHall().line(0, kind, 5, 0, 0), 0);
            }
            int[] wrong = namesD(kind) ? new int[] {-1, 6, 100, LEAST, MOST} : new int[] {-1, 1, 5, 6, LEAST, MOST};
            for (int d : wrong) {
                refused("d " + d + " of kind " + kind, WRONG, RefusedTest::told, x -> x.line(3, k, d, 0, 0));
            }
        }
        refused("d 6 where there are 8: named first", WRONG, RefusedTest::filled, x -> x.line(2, 0, 6, 0, 0));
        refused("d 1 of a PRINT where there are 8", WRONG, RefusedTest::filled, x -> x.line(2, 8, 1, 0, 0));
    }

    private static void lineOfAWrongOperand() {
        C.part("Promise 3, 'p or q is not as section 1 says'");
        for (int kind = 0; kind <= 8; kind++) {
            int k = kind;
            for (int p : new int[] {-99, -1, 0, 99, 100, 105}) {
                C.is("p " + p + " of kind " + kind, new PhiHall().line(0, kind, 0, p, 0), 0);
            }
            for (int p : new int[] {-100, 106, 200, LEAST, MOST}) {
                refused("p " + p + " of kind " + kind, WRONG, RefusedTest::told, x -> x.line(3, k, 0, p, 0));
            }
            for (int q : new int[] {-99, -1, 1, 99, 100, 105}) {
                if (namesQ(kind)) {
                    C.is("q " + q + " of kind " + kind, new PhiHall().line(0, kind, 0, 0, q), 0);
                } else {
                    refused("q " + q + " of kind " + kind, WRONG, RefusedTest::told, x -> x.line(3, k, 0, 0, q));
                }
            }
            for (int q : new int[] {-100, 106, LEAST, MOST}) {
                refused("q " + q + " of kind " + kind, WRONG, RefusedTest::told, x -> x.line(3, k, 0, 0, q));
            }
        }
        refused("p 106 where there are 8: named first", WRONG, RefusedTest::filled, x -> x.line(2, 0, 0, 106, 0));
        refused("q 1 of a PUT where there are 8", WRONG, RefusedTest::filled, x -> x.line(2, 0, 0, 0, 1));
    }

    private static void lineTooMany() {
        C.part("Promise 3, 'IllegalStateException if there are 8'");
        for (int kind = 0; kind <= 8; kind++) {
            int k = kind;
            refused("a 9th LINE of kind " + kind, STATE, RefusedTest::filled, x -> x.line(9, k, 0, 0, 0));
        }
        PhiHall y = filled();
        y.cut(9);
        C.is("an 8th LINE", y.line(9, 0, 0, 0, 0), 7);
    }

    private static void cut() {
        C.part("Promise 4, 'Throws IndexOutOfBoundsException if there is no such BLOCK'");
        for (int block : new int[] {-1, 4, 10, LEAST, MOST}) {
            refused("cut(" + block + ") of 4", OUT, RefusedTest::told, x -> x.cut(block));
        }
        refused("cut(10) of 10", OUT, RefusedTest::filled, x -> x.cut(10));
        C.is("cut(3) of 4", told().cut(3), 0);
        C.part("Promise 4, 'IllegalStateException if it has none'");
        refused("cut(0) of a new object", STATE, PhiHall::new, x -> x.cut(0));
        refused("cut(2) of which all is cut", STATE, RefusedTest::cutTwice, x -> x.cut(2));
    }

    private static PhiHall cutTwice() {
        PhiHall x = made();
        C.is("the last but one", x.cut(2), 1);
        C.is("the last one", x.cut(2), 0);
        return x;
    }

    private static void endOfNoBlock() {
        C.part("Promise 5, 'Throws IndexOutOfBoundsException if there is no such BLOCK'");
        for (int block : new int[] {-1, 4, 10, LEAST, MOST}) {
            refused("end(" + block + ", ..) of 4", OUT, RefusedTest::told, x -> x.end(block, 0, 0, 0, 0));
        }
        refused("end(10, ..) of 10", OUT, RefusedTest::filled, x -> x.end(10, 0, 0, 0, 0));
        refused("end(4, 3, ..): named first", OUT, RefusedTest::told, x -> x.end(4, 3, 106, -1, 0));
        C.is("end(3, ..) of 4", told().end(3, 0, 0, 0, 0), 0);
    }

    private static void endOfAWrongKind() {
        C.part("Promise 5, 'IllegalArgumentException if kind is not 0 to 2'");
        for (int kind : new int[] {-1, 3, LEAST, MOST}) {
            refused("kind " + kind + " with zeros", WRONG, RefusedTest::made, x -> x.end(1, kind, 0, 0, 0));
            refused("kind " + kind + " as of an IF", WRONG, RefusedTest::made, x -> x.end(1, kind, 0, 1, 1));
            refused("kind " + kind + " as of a JUMP", WRONG, RefusedTest::made, x -> x.end(1, kind, 0, 1, 0));
        }
    }

    private static void endOfAWrongOperand() {
        C.part("Promise 5, 'p is no OPERAND'");
        for (int p : new int[] {-99, 0, 99, 100, 105}) {
            C.is("RETURN " + p, told().end(1, 0, p, 0, 0), 2);
            C.is("IF " + p, told().end(1, 2, p, 1, 3), 2);
        }
        for (int p : new int[] {-100, 106, LEAST, MOST}) {
            refused("RETURN " + p, WRONG, RefusedTest::made, x -> x.end(1, 0, p, 0, 0));
            refused("IF " + p, WRONG, RefusedTest::made, x -> x.end(1, 2, p, 1, 1));
            refused("JUMP with " + p, WRONG, RefusedTest::made, x -> x.end(1, 1, p, 1, 0));
        }
    }

    private static void endToAWrongBlock() {
        C.part("Promise 5, 'to or other is no BLOCK, or is the BLOCK 0 (of those that have it)'");
        for (int to : new int[] {1, 3}) {
            C.is("JUMP to " + to, told().end(1, 1, 0, to, 0), 2);
            C.is("IF to " + to, told().end(1, 2, 0, to, 2), 2);
            C.is("IF or to " + to, told().end(1, 2, 0, 2, to), 2);
        }
        for (int to : new int[] {-1, 0, 4, 10, LEAST, MOST}) {
            refused("JUMP to " + to, WRONG, RefusedTest::told, x -> x.end(1, 1, 0, to, 0));
            refused("IF to " + to, WRONG, RefusedTest::told, x -> x.end(1, 2, 0, to, 1));
            refused("IF or to " + to, WRONG, RefusedTest::told, x -> x.end(1, 2, 0, 1, to));
        }
        refused("JUMP to 10 of 10", WRONG, RefusedTest::filled, x -> x.end(1, 1, 0, 10, 0));
        refused("JUMP of the only BLOCK to 1", WRONG, PhiHall::new, x -> x.end(0, 1, 0, 1, 0));
        refused("JUMP of the only BLOCK to itself", WRONG, PhiHall::new, x -> x.end(0, 1, 0, 0, 0));
    }

    private static void endWithMoreThanItHas() {
        C.part("Promise 5, 'p, to or other is not 0 where it has to be'");
        for (int number : new int[] {1, -1, 3, LEAST, MOST}) {
            refused("RETURN to " + number, WRONG, RefusedTest::made, x -> x.end(1, 0, 0, number, 0));
            refused("RETURN or to " + number, WRONG, RefusedTest::made, x -> x.end(1, 0, 0, 0, number));
            refused("JUMP with p " + number, WRONG, RefusedTest::made, x -> x.end(1, 1, number, 1, 0));
            refused("JUMP or to " + number, WRONG, RefusedTest::made, x -> x.end(1, 1, 0, 1, number));
        }
        refused("JUMP with a VARIABLE", WRONG, RefusedTest::made, x -> x.end(1, 1, V0, 1, 0));
        C.is("RETURN with zeros", made().end(1, 0, 0, 0, 0), 2);
        C.is("JUMP with zeros", made().end(1, 1, 0, 1, 0), 2);
    }

    private static void ofBlock() {
        C.part("Promise 6, 'Throws IndexOutOfBoundsException if there is no such BLOCK'");
        for (int block : new int[] {-1, 4, 10, LEAST, MOST}) {
            refused("ofBlock(" + block + ", 0) of 4", OUT, RefusedTest::made, x -> x.ofBlock(block, 0));
            refused("ofBlock(" + block + ", 6): named first", OUT, RefusedTest::made, x -> x.ofBlock(block, 6));
        }
        refused("ofBlock(10, 0) of 10", OUT, RefusedTest::filled, x -> x.ofBlock(10, 0));
        C.is("ofBlock(3, 0) of 4", made().ofBlock(3, 0), 2);
        C.part("Promise 6, 'IllegalArgumentException if what is not 0 to 5'");
        for (int what : new int[] {-1, 6, LEAST, MOST}) {
            refused("ofBlock(1, " + what + ")", WRONG, RefusedTest::made, x -> x.ofBlock(1, what));
            refused("ofBlock(2, " + what + "), not REACHED", WRONG, RefusedTest::made, x -> x.ofBlock(2, what));
        }
        C.is("ofBlock(1, 0)", made().ofBlock(1, 0), 2);
        C.is("ofBlock(1, 5)", made().ofBlock(1, 5), 0b000101);
    }

    private static void pass() {
        C.part("Promise 8, 'Throws IllegalArgumentException if pass is not 1 to 4'");
        for (int pass : new int[] {0, 5, -1, LEAST, MOST}) {
            refused("pass(" + pass + ")", WRONG, RefusedTest::made, x -> x.pass(pass));
            refused("pass(" + pass + ") without a FORM: named first", WRONG, RefusedTest::told, x -> x.pass(pass));
        }
        C.part("Promise 8, 'IllegalStateException if there is no FORM'");
        for (int k = 1; k <= 4; k++) {
            int pass = k;
            refused("pass(" + pass + ") of a new object", STATE, PhiHall::new, x -> x.pass(pass));
            refused("pass(" + pass + ") without a FORM", STATE, RefusedTest::told, x -> x.pass(pass));
            PhiHall y = made();
            y.pass(pass);
            C.is("passes behind pass(" + pass + ")", y.many(9), 4);
        }
    }

    private static void ofPlace() {
        C.part("Promise 9, 'Throws IndexOutOfBoundsException if there is no FORM'");
        refused("ofPlace(0, 0) of a new object", OUT, PhiHall::new, x -> x.ofPlace(0, 0));
        refused("ofPlace(0, 0) without a FORM", OUT, RefusedTest::told, x -> x.ofPlace(0, 0));
        refused("ofPlace(0, 8) without a FORM: named first", OUT, RefusedTest::told, x -> x.ofPlace(0, 8));
        C.part("Promise 9, 'or no such BLOCK in it (as told as it was made)'");
        for (int block : new int[] {-1, 4, 10, LEAST, MOST}) {
            refused("ofPlace(" + block + ", 0)", OUT, RefusedTest::madeAndToldMore, x -> x.ofPlace(block, 0));
            refused("ofPlace(" + block + ", -1): named first", OUT, RefusedTest::madeAndToldMore, x -> x.ofPlace(block, -1));
        }
        refused("ofPlace(10, 0) of 10", OUT, RefusedTest::filled, x -> x.ofPlace(10, 0));
        C.is("ofPlace(9, 0) of 10", filled().ofPlace(9, 0), 1);
        C.is("ofPlace(3, 0)", madeAndToldMore().ofPlace(3, 0), 1);
        PhiHall y = madeAndToldMore();
        y.form();
        C.is("ofPlace(4, 0) as it is made anew", y.ofPlace(4, 0), 1);
        C.part("Promise 9, 'IllegalArgumentException if what is not 0 to 7'");
        for (int what : new int[] {-1, 8, LEAST, MOST}) {
            refused("ofPlace(0, " + what + ")", WRONG, RefusedTest::made, x -> x.ofPlace(0, what));
            refused("ofPlace(1, " + what + "), which is GONE", WRONG, RefusedTest::made, x -> x.ofPlace(1, what));
            refused("ofPlace(2, " + what + "), not REACHED", WRONG, RefusedTest::made, x -> x.ofPlace(2, what));
        }
        C.is("ofPlace(1, 0), which is GONE", made().ofPlace(1, 0), 0);
        C.is("ofPlace(2, 0), not REACHED", made().ofPlace(2, 0), 0);
        C.is("ofPlace(0, 7)", made().ofPlace(0, 7), 0);
    }

    private static void valueAt() {
        C.part("Promise 10, 'Throws IndexOutOfBoundsException if there is no FORM'");
        refused("valueAt(0, 0) of a new object", OUT, PhiHall::new, x -> x.valueAt(0, 0));
        refused("valueAt(1, 0) without a FORM", OUT, RefusedTest::told, x -> x.valueAt(1, 0));
        C.part("Promise 10, 'or no such BLOCK that is'");
        for (int block : new int[] {-1, 1, 2, 4, 10, LEAST, MOST}) {
            refused("valueAt(" + block + ", 0)", OUT, RefusedTest::madeAndToldMore, x -> x.valueAt(block, 0));
        }
        C.part("Promise 10, 'or no such place'");
        PhiHall y = filled();
        C.is("VALUES in 9", y.ofPlace(9, 1), 14);
        C.is("valueAt(9, 0)", y.valueAt(9, 0), 126);
        C.is("valueAt(9, 13)", y.valueAt(9, 13), 139);
        for (int k : new int[] {-1, 14, LEAST, MOST}) {
            refused("valueAt(9, " + k + ")", OUT, RefusedTest::filled, x -> x.valueAt(9, k));
        }
        refused("valueAt(0, 0) of none", OUT, RefusedTest::formOfNothing, x -> x.valueAt(0, 0));
    }

    private static PhiHall formOfNothing() {
        PhiHall x = new PhiHall();
        x.form();
        return x;
    }

    private static void edge() {
        C.part("Promise 11, 'Throws IndexOutOfBoundsException if there is no FORM'");
        refused("edge(0, 0) of a new object", OUT, PhiHall::new, x -> x.edge(0, 0));
        refused("edge(1, 0) without a FORM", OUT, RefusedTest::told, x -> x.edge(1, 0));
        C.part("Promise 11, 'or no such BLOCK that is'");
        for (int block : new int[] {-1, 1, 2, 4, 10, LEAST, MOST}) {
            refused("edge(" + block + ", 0)", OUT, RefusedTest::madeAndToldMore, x -> x.edge(block, 0));
        }
        C.part("Promise 11, 'or no such EDGE'");
        C.is("EDGES to 1", filled().ofPlace(1, 5), 3);
        C.is("edge(1, 2)", filled().edge(1, 2), 9);
        for (int k : new int[] {-1, 3, LEAST, MOST}) {
            refused("edge(1, " + k + ")", OUT, RefusedTest::filled, x -> x.edge(1, k));
        }
        refused("edge(0, 0): none comes to the BLOCK 0", OUT, RefusedTest::filled, x -> x.edge(0, 0));
    }

    private static void ofValue() {
        C.part("Promise 12, 'Throws IndexOutOfBoundsException if there is no FORM'");
        refused("ofValue(0, 0) of a new object", OUT, PhiHall::new, x -> x.ofValue(0, 0));
        refused("ofValue(0, 5) without a FORM: named first", OUT, RefusedTest::told, x -> x.ofValue(0, 5));
        C.part("Promise 12, 'or no such VALUE'");
        C.is("ofValue(139, 0) of 140", filled().ofValue(139, 0), 3);
        for (int value : new int[] {-1, 140, LEAST, MOST}) {
            refused("ofValue(" + value + ", 0) of 140", OUT, RefusedTest::filled, x -> x.ofValue(value, 0));
            refused("ofValue(" + value + ", -1): named first", OUT, RefusedTest::filled, x -> x.ofValue(value, -1));
        }
        C.is("ofValue(5, 0) of 6", formOfNothing().ofValue(5, 0), 10);
        refused("ofValue(6, 0) of 6", OUT, RefusedTest::formOfNothing, x -> x.ofValue(6, 0));
        C.part("Promise 12, 'IllegalArgumentException if what is not 0 to 4'");
        for (int what : new int[] {-1, 5, LEAST, MOST}) {
            refused("ofValue(0, " + what + ")", WRONG, RefusedTest::made, x -> x.ofValue(0, what));
        }
        C.is("ofValue(0, 4)", formOfNothing().ofValue(0, 4), 0);
    }

    private static void argument() {
        C.part("Promise 13, 'Throws IndexOutOfBoundsException if there is no FORM'");
        refused("argument(0, 0) of a new object", OUT, PhiHall::new, x -> x.argument(0, 0));
        refused("argument(6, 0) without a FORM", OUT, RefusedTest::told, x -> x.argument(6, 0));
        C.part("Promise 13, 'or no such VALUE, or ARGUMENT'");
        for (int value : new int[] {-1, 140, LEAST, MOST}) {
            refused("argument(" + value + ", 0) of 140", OUT, RefusedTest::filled, x -> x.argument(value, 0));
        }
        for (int k : new int[] {-1, 2, LEAST, MOST}) {
            refused("argument(139, " + k + ") of 2", OUT, RefusedTest::filled, x -> x.argument(139, k));
        }
        C.is("argument(139, 1): the PHI of v4", filled().argument(139, 1), 130);
        refused("argument(5, 0): it has none", OUT, RefusedTest::filled, x -> x.argument(5, 0));
        refused("argument(6, 0): it is GONE", OUT, RefusedTest::withOneGone, x -> x.argument(6, 0));
    }

    private static void number() {
        C.part("Promise 14, 'Throws IndexOutOfBoundsException if there is no FORM'");
        refused("number(0, 0) of a new object", OUT, PhiHall::new, x -> x.number(0, 0));
        refused("number(6, 0) without a FORM", OUT, RefusedTest::told, x -> x.number(6, 0));
        C.part("Promise 14, 'or no such VALUE, or ARGUMENT'");
        for (int value : new int[] {-1, 140, LEAST, MOST}) {
            refused("number(" + value + ", 0) of 140", OUT, RefusedTest::filled, x -> x.number(value, 0));
        }
        for (int k : new int[] {-1, 2, LEAST, MOST}) {
            refused("number(139, " + k + ") of 2", OUT, RefusedTest::filled, x -> x.number(139, k));
        }
        C.is("number(139, 1)", filled().number(139, 1), 0);
        refused("number(5, 0): it has none", OUT, RefusedTest::filled, x -> x.number(5, 0));
        refused("number(6, 0): it is GONE", OUT, RefusedTest::withOneGone, x -> x.number(6, 0));
    }

    private static PhiHall withOneGone() {
        PhiHall x = reckoning(1);
        give(x, 0, V1);
        x.form();
        C.is("pass(3)", x.pass(3), 1);
        return x;
    }

    private static void runForm() {
        C.part("Promise 16, 'Throws IllegalStateException if there is no FORM'");
        refused("runForm of a new object", STATE, PhiHall::new, x -> x.runForm(0, 0));
        refused("runForm without a FORM", STATE, RefusedTest::told, x -> x.runForm(LEAST, MOST));
        C.is("runForm", formOfNothing().runForm(LEAST, MOST), 0);
    }

    private static void ofRun() {
        C.part("Promise 17, 'Throws IllegalArgumentException if what is not 0 to 5'");
        for (int what : new int[] {-1, 6, LEAST, MOST}) {
            refused("ofRun(" + what + ") ahead of all", WRONG, PhiHall::new, x -> x.ofRun(what));
            refused("ofRun(" + what + ")", WRONG, RefusedTest::made, x -> x.ofRun(what));
        }
        C.is("ofRun(5)", made().ofRun(5), 1);
        C.is("ofRun(0)", made().ofRun(0), 0);
    }

    private static void printed() {
        C.part("Promise 18, 'Throws IndexOutOfBoundsException if there is no such one'");
        refused("printed(0) of a new object", OUT, PhiHall::new, x -> x.printed(0));
        C.is("printed(0) of 1", told().printed(0), 3);
        for (int k : new int[] {-1, 1, 60, LEAST, MOST}) {
            refused("printed(" + k + ") of 1", OUT, RefusedTest::told, x -> x.printed(k));
        }
        C.part("Promise 18, 'or it is not kept'");
        C.is("printed(59) of 61", printing(61).printed(59), 2);
        for (int k : new int[] {-1, 60, 61, MOST}) {
            refused("printed(" + k + ") of 61", OUT, () -> printing(61), x -> x.printed(k));
        }
    }

    /** PRINTS count, count - 1, .. 1. */
    private static PhiHall printing(int count) {
        PhiHall x = withBlocks(3);
        jump(x, 0, 1);
        print(x, 1, V0);
        x.line(1, 2, 0, V0, 1);
        branch(x, 1, V0, 1, 2);
        x.run(count, 0);
        return x;
    }

    private static void cell() {
        C.part("Promise 19, 'Throws IndexOutOfBoundsException if cell is not 0 to 7'");
        for (int cell : new int[] {-1, 8, LEAST, MOST}) {
            refused("cell(" + cell + ") ahead of all", OUT, PhiHall::new, x -> x.cell(cell));
            refused("cell(" + cell + ")", OUT, RefusedTest::made, x -> x.cell(cell));
        }
        C.is("cell(0)", new PhiHall().cell(0), 0);
        C.is("cell(7)", new PhiHall().cell(7), 0);
    }

    private static void many() {
        C.part("Promise 20, 'Throws IllegalArgumentException if what is not 0 to 10'");
        for (int what : new int[] {-1, 11, LEAST, MOST}) {
            refused("many(" + what + ") without a FORM", WRONG, RefusedTest::told, x -> x.many(what));
            refused("many(" + what + ")", WRONG, RefusedTest::made, x -> x.many(what));
        }
        C.is("many(0)", made().many(0), 4);
        C.is("many(10) without a FORM", told().many(10), 0);
    }

    private static void wouldGo() {
        C.part("Promise 22, 'Throws IllegalArgumentException if pass is not 1 to 4'");
        for (int pass : new int[] {0, 5, -1, LEAST, MOST}) {
            refused("wouldGo(" + pass + ")", WRONG, RefusedTest::made, x -> x.wouldGo(pass));
            refused("wouldGo(" + pass + ") without a FORM: named first", WRONG, RefusedTest::told, x -> x.wouldGo(pass));
        }
        C.part("Promise 22, 'IllegalStateException if there is no FORM'");
        for (int k = 1; k <= 4; k++) {
            int pass = k;
            refused("wouldGo(" + pass + ") of a new object", STATE, PhiHall::new, x -> x.wouldGo(pass));
            refused("wouldGo(" + pass + ") without a FORM", STATE, RefusedTest::told, x -> x.wouldGo(pass));
            C.is("wouldGo(" + pass + ")", formOfNothing().wouldGo(pass), 0);
        }
    }

    private static void wouldCost() {
        C.part("Promise 23, 'Throws IllegalArgumentException if passes is not 0 to 5'");
        for (int passes : new int[] {-1, 6, LEAST, MOST}) {
            refused("wouldCost(" + passes + ", ..)", WRONG, RefusedTest::made, x -> x.wouldCost(passes, 0, 0));
            refused("wouldCost(" + passes + ", ..) without a FORM: named first", WRONG, RefusedTest::told, x -> x.wouldCost(passes, 0, 0));
        }
        C.part("Promise 23, 'IllegalStateException if there is no FORM'");
        for (int k = 0; k <= 5; k++) {
            int passes = k;
            refused("wouldCost(" + passes + ", ..) of a new object", STATE, PhiHall::new, x -> x.wouldCost(passes, 0, 0));
            refused("wouldCost(" + passes + ", ..) without a FORM", STATE, RefusedTest::told, x -> x.wouldCost(passes, 0, 0));
            C.is("wouldCost(" + passes + ", ..)", formOfNothing().wouldCost(passes, LEAST, MOST), 0);
        }
    }

    private static void untilStill() {
        C.part("Promise 24, 'Throws IllegalStateException if there is no FORM'");
        refused("untilStill() of a new object", STATE, PhiHall::new, PhiHall::untilStill);
        refused("untilStill() without a FORM", STATE, RefusedTest::told, PhiHall::untilStill);
        C.is("untilStill()", formOfNothing().untilStill(), 4);
    }

    private static void isAlike() {
        C.part("Promise 25, 'Throws IllegalStateException if there is no FORM'");
        refused("isAlike of a new object", STATE, PhiHall::new, x -> x.isAlike(0, 0));
        refused("isAlike without a FORM", STATE, RefusedTest::told, x -> x.isAlike(LEAST, MOST));
        C.holds("isAlike", formOfNothing().isAlike(LEAST, MOST));
    }

    /** Each with any numbers, in any state. */
    private static void neverRefused() {
        C.part("what throws nothing");
        int[] all = {LEAST, -1, 0, 1, MOST};
        for (int a : all) {
            for (int b : all) {
                PhiHall x = filled();
                C.holds("run, runForm: " + a + ", " + b, x.run(a, b) <= 2 && x.runForm(a, b) <= 2);
                C.holds("isAlike: " + a + ", " + b, x.isAlike(a, b));
                C.holds("wouldCost: " + a + ", " + b, x.wouldCost(0, a, b) == x.ofRun(3));
            }
        }
        for (PhiHall x : new PhiHall[] {new PhiHall(), told(), made(), filled()}) {
            C.holds("meanCost(), digest()", x.meanCost() >= 0 && x.digest() == x.digest());
            C.holds("form()", x.form() >= 6);
        }
    }

    public static void main(String[] args) {
        block();
        lineOfNoBlock();
        lineOfAWrongKind();
        lineOfAWrongVariable();
        lineOfAWrongOperand();
        lineTooMany();
        cut();
        endOfNoBlock();
        endOfAWrongKind();
        endOfAWrongOperand();
        endToAWrongBlock();
        endWithMoreThanItHas();
        ofBlock();
        pass();
        ofPlace();
        valueAt();
        edge();
        ofValue();
        argument();
        number();
        runForm();
        ofRun();
        printed();
        cell();
        many();
        wouldGo();
        wouldCost();
        untilStill();
        isAlike();
        neverRefused();
        C.finish();
    }
}
