/** Promises 14 to 19: the heap, its quotas and its sweeps. */
public final class HeapTest {
    private static final Check CHECK = new Check("HeapTest");
    private static final Class<?> INDEX = IndexOutOfBoundsException.class;
    private static final Class<?> ARGUMENT = IllegalArgumentException.class;

    private HeapTest() {
    }

    private static void holds(Sealhouse x, int register, String due) {
        CHECK.same("register " + register, OperationsTest.right(x, register), due);
    }

    public static void main(String[] args) {
        getMakesUp();
        getTakesTheLowest();
        getClears();
        getTraps();
        free();
        freeTraps();
        restingCells();
        sweep();
        sweepCountsWaitingCalls();
        sweepLeavesLaterRights();
        blocksOfOldAreForgotten();
        sweepGivesBackToTheOwner();
        quotas();
        states();
        CHECK.end();
    }

    private static void getMakesUp() {
        int[][] sizes = {{1, 1}, {8, 8}, {9, 10}, {10, 10}, {15, 16}, {16, 16}, {17, 20}, {20, 20}, {29, 32}, {32, 32}};
        for (int[] s : sizes) {
            Sealhouse x = new Sealhouse();
            x.setQuota(0, 32);
            CHECK.fine("get " + s[0], x.get(3, s[0]));
            holds(x, 3, "64.." + (64 + s[1]) + " at 64 may 95 seal 0");
            CHECK.same("counted", x.counted(0), s[1]);
            CHECK.same("stateOf", x.stateOf(63 + s[1]), 'g');
            if (s[1] < 32) {
                CHECK.same("stateOf", x.stateOf(64 + s[1]), 'f');
            }
        }
        Sealhouse x = new Sealhouse();
        CHECK.throwsA(INDEX, "get", () -> x.get(8, 0));
        CHECK.throwsA(INDEX, "get", () -> x.get(-1, 1));
        CHECK.throwsA(ARGUMENT, "get", () -> x.get(0, 0));
        CHECK.throwsA(ARGUMENT, "get", () -> x.get(0, 33));
        CHECK.same("counted", x.counted(0), 0);
    }

    private static void getTakesTheLowest() {
        Sealhouse x = new Sealhouse();
        x.setQuota(0, 32);
        x.get(0, 1);
        x.get(1, 9);
        holds(x, 1, "66..76 at 66 may 95 seal 0");
        x.get(2, 1);
        holds(x, 2, "65..66 at 65 may 95 seal 0");
        x.get(3, 17);
        holds(x, 3, "76..96 at 76 may 95 seal 0");
        CHECK.same("counted", x.counted(0), 32);
        x.free(1);
        x.sweep();
        x.get(1, 9);
        holds(x, 1, "66..76 at 66 may 95 seal 0");
        x.free(3);
        x.sweep();
        x.get(4, 1);
        holds(x, 4, "76..77 at 76 may 95 seal 0");
        x.setQuota(1, 32);
        x.call(1);
        CHECK.same("from 77 on 19 are left, and 16 from 80 on", x.get(5, 17), 'm');
        x.call(1);
        CHECK.fine("get", x.get(5, 16));
        holds(x, 5, "78..94 at 78 may 95 seal 0");
    }

    private static void getClears() {
        Sealhouse x = new Sealhouse();
        x.get(0, 2);
        x.put(1, 5);
        x.store(0, 1);
        x.step(1, 0, 1);
        x.store(1, 7);
        x.free(0);
        CHECK.same("a cell that rests keeps what it holds", x.cell(64), 5);
        x.sweep();
        CHECK.same("so does a free one", x.cell(64), 5);
        CHECK.yes("so does a free one", x.hasRight(65));
        x.get(0, 2);
        CHECK.same("what is got is 0", x.cell(64), 0);
        CHECK.no("what is got is 0", x.hasRight(65));
    }

    private static void getTraps() {
        Sealhouse x = new Sealhouse();
        CHECK.same("more than the quota, made up", x.get(0, 17), 'q');
        CHECK.fine("just the quota", x.get(0, 15));
        CHECK.same("one more", x.get(0, 1), 'q');
        x.setQuota(0, 32);
        CHECK.same("'q' ahead of 'm'", x.get(0, 17), 'q');
        CHECK.fine("get", x.get(0, 13));
        CHECK.fine("get", x.get(1, 2));
        x.setQuota(1, 32);
        x.call(1);
        CHECK.same("none free", x.get(0, 1), 'm');
        CHECK.same("depth", x.depth(), 0);
        holds(x, 0, "number -1");
        holds(x, 1, "94..96 at 94 may 95 seal 0");
        CHECK.same("traps q", x.traps('q'), 3);
        CHECK.same("traps m", x.traps('m'), 1);
        CHECK.same("counted", x.counted(0), 32);
        CHECK.same("counted", x.counted(1), 0);
    }

    private static void free() {
        Sealhouse x = new Sealhouse();
        x.get(0, 3);
        x.step(1, 0, 9);
        x.restrict(1, 1, 2);
        CHECK.fine("free", x.free(1));
        for (int i = 64; i < 67; i++) {
            CHECK.same("stateOf", x.stateOf(i), 'r');
        }
        CHECK.same("stateOf", x.stateOf(67), 'f');
        holds(x, 1, "64..67 at 73 may 2 seal 0");
        CHECK.same("counted", x.counted(0), 3);
        CHECK.same("freed twice", x.free(0), 'f');
        CHECK.throwsA(INDEX, "free", () -> x.free(8));
        CHECK.throwsA(INDEX, "free", () -> x.free(-1));
        x.get(0, 2);
        x.call(2);
        CHECK.fine("another compartment may free", x.free(0));
        CHECK.same("it counts for who got it", x.counted(0), 5);
        CHECK.same("it counts for who got it", x.counted(2), 0);
        x.sweep();
        CHECK.same("counted", x.counted(0), 0);
    }

    private static void freeTraps() {
        Sealhouse x = new Sealhouse();
        CHECK.same("a number", x.free(0), 't');
        x.get(0, 4);
        x.store(7, 0);
        x.seal(1, 0);
        CHECK.same("a sealed right", x.free(1), 's');
        x.load(0, 7);
        x.restrict(1, 0, 125);
        CHECK.same("without 2", x.free(1), 'p');
        x.load(0, 7);
        x.narrow(1, 0, 64, 3);
        CHECK.same("too short", x.free(1), 'f');
        x.load(0, 7);
        x.narrow(1, 0, 65, 3);
        CHECK.same("not at the base", x.free(1), 'f');
        CHECK.same("globals", x.free(7), 'f');
        CHECK.same("stack", x.free(6), 'f');
        x.restrict(0, 7, 1);
        CHECK.same("'p' ahead of 'f'", x.free(0), 'p');
        CHECK.same("traps f", x.traps('f'), 4);
        CHECK.same("stateOf", x.stateOf(64), 'g');
        x.load(0, 7);
        CHECK.fine("free", x.free(0));
    }

    private static void restingCells() {
        Sealhouse x = new Sealhouse();
        x.get(0, 4);
        x.narrow(1, 0, 65, 2);
        x.step(1, 1, 3);
        x.store(7, 1);
        x.put(2, 8);
        x.free(0);
        CHECK.fine("a right in a register still stores", x.store(0, 2));
        CHECK.fine("a right in a register still loads", x.load(3, 0));
        holds(x, 3, "number 8");
        CHECK.yes("the cell still has it", x.hasRight(0));
        CHECK.fine("but it is loaded as a number", x.load(3, 7));
        holds(x, 3, "number 68");
        CHECK.fine("such a right is stored", x.store(7, 0));
        CHECK.yes("hasRight", x.hasRight(0));
    }

    private static void sweep() {
        Sealhouse x = new Sealhouse();
        CHECK.same("nothing to sweep", x.sweep(), 0);
        x.get(0, 4);
        x.get(1, 2);
        x.narrow(2, 0, 66, 1);
        x.step(2, 2, 5);
        x.seal(3, 0);
        x.store(7, 0);
        x.store(1, 3);
        x.store(6, 1);
        CHECK.same("got cells are not swept", x.sweep(), 0);
        x.free(0);
        CHECK.same("sweep", x.sweep(), 5);
        holds(x, 0, "number 64");
        holds(x, 2, "number 71");
        holds(x, 3, "number 64");
        holds(x, 1, "68..70 at 68 may 95 seal 0");
        CHECK.no("hasRight", x.hasRight(0));
        CHECK.no("hasRight", x.hasRight(68));
        CHECK.yes("hasRight", x.hasRight(32));
        CHECK.same("counted", x.counted(0), 2);
        CHECK.same("stateOf", x.stateOf(64), 'f');
        CHECK.same("stateOf", x.stateOf(68), 'g');
        CHECK.same("swept twice", x.sweep(), 0);
    }

    private static void sweepCountsWaitingCalls() {
        Sealhouse x = new Sealhouse();
        x.get(0, 1);
        x.move(1, 0);
        x.move(5, 0);
        x.call(1);
        x.move(2, 0);
        x.put(0, 0);
        x.call(2);
        x.free(1);
        CHECK.same("three in the first call, two in the second, one in the third", x.sweep(), 6);
        x.leave();
        holds(x, 1, "number 64");
        holds(x, 2, "number 64");
        x.leave();
        holds(x, 5, "number 64");
        x.get(0, 1);
        x.call(1);
        x.move(4, 0);
        x.put(0, 0);
        x.leave();
        x.setQuota(0, 32);
        CHECK.same("registers of ended calls do not count", x.sweep(), 0);
    }

    private static void sweepLeavesLaterRights() {
        Sealhouse x = new Sealhouse();
        x.get(0, 2);
        x.free(0);
        CHECK.same("sweep", x.sweep(), 1);
        x.get(2, 2);
        x.call(1);
        x.leave();
        holds(x, 2, "64..66 at 64 may 95 seal 0");
        CHECK.same("sweep", x.sweep(), 0);
        holds(x, 2, "64..66 at 64 may 95 seal 0");
        x.call(1);
        x.leave();
        x.call(1);
        x.move(2, 6);
        CHECK.same("a part of the stack does not rest", x.sweep(), 0);
        holds(x, 2, "36..40 at 36 may 111 seal 0");
    }

    private static void blocksOfOldAreForgotten() {
        Sealhouse x = new Sealhouse();
        x.get(0, 2);
        x.get(1, 2);
        x.free(0);
        x.free(1);
        x.sweep();
        x.get(0, 4);
        x.narrow(1, 0, 66, 2);
        CHECK.same("the bounds of what was got once", x.free(1), 'f');
        x.get(0, 4);
        x.free(0);
        x.sweep();
        x.get(0, 2);
        CHECK.fine("just what was got", x.free(0));
        CHECK.same("stateOf", x.stateOf(70), 'f');
    }

    private static void sweepGivesBackToTheOwner() {
        Sealhouse x = new Sealhouse();
        x.get(0, 2);
        x.call(1);
        x.get(1, 3);
        x.call(2);
        x.get(2, 5);
        x.free(2);
        x.free(1);
        CHECK.same("counted", x.counted(1), 3);
        x.sweep();
        CHECK.same("counted", x.counted(0), 2);
        CHECK.same("counted", x.counted(1), 0);
        CHECK.same("counted", x.counted(2), 0);
        x.free(0);
        x.sweep();
        CHECK.same("counted", x.counted(0), 0);
    }

    private static void quotas() {
        Sealhouse x = new Sealhouse();
        for (int c = 0; c < 4; c++) {
            CHECK.same("setQuota", x.setQuota(c, 3 + c), 16);
            CHECK.same("setQuota", x.setQuota(c, 32), 3 + c);
        }
        CHECK.same("setQuota", x.setQuota(3, 0), 32);
        CHECK.throwsA(INDEX, "setQuota", () -> x.setQuota(4, 33));
        CHECK.throwsA(INDEX, "setQuota", () -> x.setQuota(-1, 0));
        CHECK.throwsA(ARGUMENT, "setQuota", () -> x.setQuota(0, 33));
        CHECK.throwsA(ARGUMENT, "setQuota", () -> x.setQuota(0, -1));
        CHECK.throwsA(INDEX, "counted", () -> x.counted(4));
        CHECK.throwsA(INDEX, "counted", () -> x.counted(-1));
        x.get(0, 4);
        CHECK.same("a quota below what counts", x.setQuota(0, 2), 32);
        CHECK.same("counted", x.counted(0), 4);
        CHECK.same("get", x.get(1, 1), 'q');
        x.call(3);
        CHECK.same("a quota of 0", x.get(1, 1), 'q');
        x.call(2);
        CHECK.fine("quotas are of compartments", x.get(1, 9));
        CHECK.same("counted", x.counted(2), 10);
        CHECK.same("counted", x.counted(0), 4);
    }

    private static void states() {
        Sealhouse x = new Sealhouse();
        CHECK.same("stateOf", x.stateOf(63), '-');
        CHECK.same("stateOf", x.stateOf(64), 'f');
        CHECK.same("stateOf", x.stateOf(95), 'f');
        CHECK.throwsA(INDEX, "stateOf", () -> x.stateOf(96));
        CHECK.throwsA(INDEX, "stateOf", () -> x.stateOf(-1));
    }
}
