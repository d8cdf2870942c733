/** What the tests of the project share: the telling of programs, and some programs. */
class Programs {
    static final int NONE = -1;
    static final int V0 = 100;
    static final int V1 = 101;
    static final int V2 = 102;
    static final int V3 = 103;
    static final int V4 = 104;
    static final int V5 = 105;

    static PhiHall withBlocks(int count) {
        PhiHall x = new PhiHall();
        for (int k = 1; k < count; k++) {
            x.block();
        }
        return x;
    }

    static void put(PhiHall x, int block, int d, int p) {
        x.line(block, 0, d, p, 0);
    }

    static void load(PhiHall x, int block, int d, int p) {
        x.line(block, 6, d, p, 0);
    }

    static void store(PhiHall x, int block, int p, int q) {
        x.line(block, 7, 0, p, q);
    }

    static void print(PhiHall x, int block, int p) {
        x.line(block, 8, 0, p, 0);
    }

    static void jump(PhiHall x, int block, int to) {
        x.end(block, 1, 0, to, 0);
    }

    static void branch(PhiHall x, int block, int p, int to, int other) {
        x.end(block, 2, p, to, other);
    }

    static void give(PhiHall x, int block, int p) {
        x.end(block, 0, p, 0, 0);
    }

    /** Sums v0, v0 - 1, .. 1 into v2, prints and returns that. */
    static PhiHall loop() {
        PhiHall x = withBlocks(4);
        put(x, 0, 2, 0);
        jump(x, 0, 1);
        x.line(1, 5, 3, 0, V0);
        branch(x, 1, V3, 2, 3);
        x.line(2, 1, 2, V2, V0);
        x.line(2, 2, 0, V0, 1);
        jump(x, 2, 1);
        print(x, 3, V2);
        give(x, 3, V2);
        return x;
    }

    /** BLOCK 0 goes to 1 and 2, both to 3; lines are for the caller. */
    static PhiHall diamond() {
        PhiHall x = withBlocks(4);
        branch(x, 0, V0, 1, 2);
        jump(x, 1, 3);
        jump(x, 2, 3);
        return x;
    }

    /**
     * The pass 2 visits the BLOCKS against the ways of the runs: each time just one more PHI is
     * found to be the same VALUE, first those of v2, then those of v3. With its FORM.
     */
    static PhiHall ladder(int blocks) {
        PhiHall x = withBlocks(blocks);
        int top = blocks - 1;
        x.line(0, 1, 2, V0, 1);
        x.line(0, 1, 3, V2, 1);
        branch(x, 0, V1, top, top - 1);
        x.line(top, 1, 2, V0, 1);
        for (int block = top; block > 2; block--) {
            branch(x, block, V1, block - 1, block - 2);
        }
        branch(x, 2, V1, 1, 1);
        print(x, 1, V3);
        x.line(1, 1, 3, V2, 1);
        jump(x, 1, top);
        x.form();
        return x;
    }

    /** As much as there can be: 10 BLOCKS of 8 LINES, none of them PUT, and 6 PHIS in each BLOCK but the BLOCK 0. */
    static PhiHall full() {
        PhiHall x = withBlocks(10);
        for (int block = 0; block < 10; block++) {
            for (int k = 0; k < 8; k++) {
                int kind = k < 3 ? 7 : 1 + k % 5;
                int d = k < 3 ? 0 : (k + block) % 6;
                x.line(block, kind, d, 100 + 2 * k % 6, 101 + (2 * k + (k < 3 ? 0 : block)) % 5);
            }
            branch(x, block, 100 + block % 6, block < 9 ? block + 1 : 1, block < 8 ? block + 2 : block - 7);
        }
        return x;
    }

    /** What a LINE of a KIND makes of both inputs is RETURNED. */
    static PhiHall reckoning(int kind) {
        PhiHall x = new PhiHall();
        x.line(0, kind, 2, V0, V1);
        give(x, 0, V2);
        return x;
    }
}
