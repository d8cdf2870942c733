import java.util.ArrayList;
import java.util.List;

/** All that an object answers, one number behind the other: two objects in the same state have the same ones. */
final class Picture {
    private static final int[][] INPUTS = {{0, 0}, {3, -2}, {-5, 7}, {1, 1}};

    private final List<Long> answers = new ArrayList<>();

    private Picture() {
    }

    /** What it answers to questions, which leave it as it is. */
    static List<Long> of(PhiHall x) {
        Picture p = new Picture();
        p.ask(x);
        return p.answers;
    }

    /** What it answers as all that it holds is brought to light: it is run, formed, passed over and cut to pieces. */
    static List<Long> behind(PhiHall x) {
        Picture p = new Picture();
        p.use(x);
        p.take(x);
        return p.answers;
    }

    private void add(long answer) {
        answers.add(answer);
    }

    private void ask(PhiHall x) {
        askBlocks(x);
        askRun(x);
        if (x.many(3) == 1) askForm(x);
        add(x.digest());
    }

    private void askBlocks(PhiHall x) {
        for (int what = 0; what <= 10; what++) add(x.many(what));
        for (int block = 0; block < x.many(0); block++) {
            for (int what = 0; what <= 5; what++) add(x.ofBlock(block, what));
        }
    }

    private void askRun(PhiHall x) {
        for (int what = 0; what <= 5; what++) add(x.ofRun(what));
        for (int k = 0; k < Math.min(60, x.ofRun(2)); k++) add(x.printed(k));
        for (int cell = 0; cell < 8; cell++) add(x.cell(cell));
        add(Double.doubleToLongBits(x.meanCost()));
    }

    private void askForm(PhiHall x) {
        for (int block = 0; isPlace(x, block); block++) {
            for (int what = 0; what <= 7; what++) add(x.ofPlace(block, what));
            for (int k = 0; k < x.ofPlace(block, 1); k++) add(x.valueAt(block, k));
            for (int k = 0; k < x.ofPlace(block, 5); k++) add(x.edge(block, k));
        }
        for (int value = 0; value < x.many(4); value++) {
            for (int what = 0; what <= 4; what++) add(x.ofValue(value, what));
            for (int k = 0; k < x.ofValue(value, 3); k++) {
                add(x.argument(value, k));
                add(x.number(value, k));
            }
        }
        askWhatWouldBe(x);
    }

    private void askWhatWouldBe(PhiHall x) {
        for (int pass = 1; pass <= 4; pass++) add(x.wouldGo(pass));
        for (int passes = 0; passes <= 5; passes++) {
            for (int[] in : INPUTS) add(x.wouldCost(passes, in[0], in[1]));
        }
        for (int[] in : INPUTS) add(x.isAlike(in[0], in[1]) ? 1 : 0);
        add(x.untilStill());
    }

    static boolean isPlace(PhiHall x, int block) {
        try {
            x.ofPlace(block, 0);
            return true;
        } catch (IndexOutOfBoundsException e) {
            return false;
        }
    }

    private void use(PhiHall x) {
        ask(x);
        for (int round = 0; round < 2; round++) {
            for (int[] in : INPUTS) {
                add(x.run(in[0], in[1]));
                askRun(x);
                if (x.many(3) == 1) {
                    add(x.runForm(in[0], in[1]));
                    askRun(x);
                }
            }
            for (int pass = 1; x.many(3) == 1 && pass <= 4; pass++) {
                add(x.pass(pass));
                ask(x);
            }
            add(x.form());
            ask(x);
        }
    }

    private void take(PhiHall x) {
        for (int block = 0; block < x.many(0); block++) {
            while (x.ofBlock(block, 0) > 0) {
                add(x.cut(block));
                askBlocks(x);
            }
            add(x.end(block, 0, 7, 0, 0));
            askBlocks(x);
        }
        while (x.many(0) < 10) add(x.block());
    }
}
