import java.io.IOException;

/** Promises 14 to 19: the heap, each sentence of theirs. */
public final class HeapPromisesTest {
    private static final Class<?> INDEX = Scenes.INDEX;
    private static final Class<?> ARGUMENT = Scenes.ARGUMENT;
    private static final int[] NONE = Scenes.NO_REGISTERS;
    private static final Scenes.Maker NEW = Sealhouse::new;

    private HeapPromisesTest() {
    }

    public static void main(String[] args) throws IOException {
        Sentences.run(HeapPromisesTest.class);
    }

    // ---- Promise 14 ----

    @Says(in = "Promise 14", words = "Gets cells of the heap.")
    static void get(Check due) {
        Sealhouse x = Scenes.with(y -> y.get(0, 3), y -> y.call(1));
        due.fine("get", x.get(2, 5));
        due.same("states", Scenes.states(x).substring(64), "g".repeat(8) + "f".repeat(24));
        due.same("the right", Scenes.right(x, 2), "67..72 at 67 may 95 seal 0");
        due.same("counted", x.counted(0) + " " + x.counted(1), "3 5");
    }

    @Says(in = "Promise 14", words = "`to`: the register that gets it, 0 to 7")
    static void getTo(Check due) {
        Scenes.getsIt(due, NEW, "64..66 at 64 may 95 seal 0", (x, to) -> x.get(to, 2));
    }

    @Says(in = "Promise 14", words = "`cells`: how many, 1 to 32")
    static void getCells(Check due) {
        for (int cells = 1; cells <= 32; cells++) {
            Sealhouse x = Scenes.with(y -> y.setQuota(0, 32));
            due.fine("get " + cells, x.get(0, cells));
            due.yes("enough of them", x.counted(0) >= cells && x.counted(0) < cells + 4);
            due.same("just those", x.ask(0, 't') - x.ask(0, 'b'), x.counted(0));
        }
    }

    @Says(in = "Promise 14", words = "Returns '-', or the trap.")
    static void getAnswers(Check due) {
        Scenes.answers(due, "get", NEW, '-', x -> x.get(0, 16));
        Scenes.answers(due, "get of more than the quota", NEW, 'q', x -> x.get(0, 17));
        Scenes.answers(due, "get with a quota of 0", () -> Scenes.with(x -> x.setQuota(0, 0)), 'q', x -> x.get(0, 1));
        Scenes.answers(due, "get of a full heap", () -> Scenes.with(x -> x.setQuota(0, 32), x -> x.get(5, 32),
                x -> x.call(3)), 'm', x -> x.get(0, 1));
    }

    @Says(in = "Promise 14", words = "Throws `IndexOutOfBoundsException` if there is no such register, for any")
    static void getThrowsIndex(Check due) {
        Scenes.refusesAll(due, INDEX, NONE, "get", (x, to) -> x.get(to, 1));
        Scenes.refusesAll(due, INDEX, NONE, "get of too many", (x, to) -> x.get(to, 33));
    }

    @Says(in = "Promise 14", words = "Throws `IllegalArgumentException` if the number is out of range")
    static void getThrowsArgument(Check due) {
        int[] cells = {0, -1, 33, Integer.MIN_VALUE, Integer.MAX_VALUE};
        Scenes.refusesAll(due, ARGUMENT, cells, "get", (x, n) -> x.get(0, n));
        for (int n : cells) {
            Scenes.refuses(due, () -> Scenes.with(x -> x.setQuota(0, 0)), ARGUMENT, "get of a quota of 0",
                    x -> x.get(7, n));
        }
    }

    // ---- Promise 15 ----

    @Says(in = "Promise 15", words = "Frees cells of the heap.")
    static void free(Check due) {
        Sealhouse x = Scenes.with(y -> y.get(1, 2), y -> y.get(2, 3), y -> y.get(3, 2));
        due.fine("free", x.free(2));
        due.same("states", Scenes.states(x).substring(64), "ggrrrgg" + "f".repeat(25));
        due.same("the register keeps its right", Scenes.right(x, 2), "66..69 at 66 may 95 seal 0");
        due.same("they count still", x.counted(0), 7);
    }

    @Says(in = "Promise 15", words = "`from`: the register that is used, 0 to 7")
    static void freeFrom(Check due) {
        Scenes.usesIt(due, x -> x.get(2, 2), (x, from) -> x.free(from));
    }

    @Says(in = "Promise 15", words = "Returns '-', or the trap.")
    static void freeAnswers(Check due) {
        Scenes.Maker got = () -> Scenes.with(x -> x.get(0, 2), x -> x.seal(1, 0), x -> x.restrict(2, 0, 125),
                x -> x.narrow(3, 0, 64, 1));
        Scenes.answers(due, "free", got, '-', x -> x.free(0));
        Scenes.answers(due, "free of a number", got, 't', x -> x.free(4));
        Scenes.answers(due, "free of a sealed right", got, 's', x -> x.free(1));
        Scenes.answers(due, "free without 2", got, 'p', x -> x.free(2));
        Scenes.answers(due, "free of a part", got, 'f', x -> x.free(3));
    }

    @Says(in = "Promise 15", words = "Throws `IndexOutOfBoundsException` if there is no such register")
    static void freeThrows(Check due) {
        Scenes.refusesAll(due, INDEX, NONE, "free", (x, from) -> x.free(from));
    }

    // ---- Promise 16 ----

    @Says(in = "Promise 16", words = "Sweeps.")
    static void sweep(Check due) {
        Sealhouse x = Scenes.with(y -> y.get(1, 2), y -> y.get(2, 2), y -> y.store(7, 1), y -> y.free(1),
                y -> y.sweep());
        due.same("states", Scenes.states(x).substring(64), "ffgg" + "f".repeat(28));
        due.same("the register", Scenes.right(x, 1), "number 64");
        due.no("the cell", x.hasRight(0));
        due.same("what was not freed", Scenes.right(x, 2), "66..68 at 66 may 95 seal 0");
        due.same("counted", x.counted(0), 2);
        due.same("a sweep of a new machine does nothing", Scenes.whole(() -> Scenes.with(y -> y.sweep())),
                Scenes.whole(NEW));
        due.same("a second sweep does nothing", Scenes.whole(() -> Scenes.with(y -> y.get(1, 2), y -> y.free(1),
                y -> y.sweep(), y -> y.sweep())), Scenes.whole(() -> Scenes.with(y -> y.get(1, 2), y -> y.free(1),
                y -> y.sweep())));
    }

    @Says(in = "Promise 16", words = "Returns how many rights became numbers.")
    static void sweepAnswers(Check due) {
        due.same("none at first", new Sealhouse().sweep(), 0);
        due.same("none rests", Scenes.with(x -> x.get(0, 2)).sweep(), 0);
        due.same("one", Scenes.with(x -> x.get(0, 2), x -> x.free(0)).sweep(), 1);
        due.same("none has one any more", Scenes.with(x -> x.get(0, 2), x -> x.free(0), x -> x.put(0, 0)).sweep(), 0);
        Sealhouse x = Scenes.wide();
        for (int i = 0; i < 32; i++) {
            x.step(4, 5, i);
            x.store(4, 5);
        }
        for (int i = 0; i < 8; i++) {
            x.step(4, 7, i);
            x.store(4, 5);
        }
        for (int r = 0; r < 8; r++) {
            x.move(r, 5);
        }
        for (int d = 1; d <= 7; d++) {
            x.call(0);
            for (int r = 0; r < 8; r++) {
                x.move(r, 0);
            }
        }
        x.free(3);
        due.same("all registers of all calls, the heap and the globals", x.sweep(), 64 + 32 + 8);
        due.same("and none then", x.sweep(), 0);
        due.same("rightShare", x.rightShare(), 0f);
    }

    // ---- Promise 17 ----

    @Says(in = "Promise 17", words = "Sets the quota of a compartment.")
    static void setQuota(Check due) {
        for (int c = 0; c < 4; c++) {
            int called = c;
            Sealhouse x = Scenes.with(y -> y.setQuota(called, 3), y -> y.call(called));
            due.fine("up to it", x.get(0, 3));
            due.same("beyond it", x.get(1, 1), 'q');
            for (int other = 0; other < 4; other++) {
                due.same("that of " + other, x.setQuota(other, 16), other == c ? 3 : 16);
            }
        }
        Sealhouse x = Scenes.with(y -> y.get(0, 4));
        x.setQuota(0, 2);
        due.same("below what counts", x.counted(0), 4);
        due.same("states", x.stateOf(67), 'g');
        due.same("then no more", x.get(1, 1), 'q');
        x.setQuota(0, 5);
        due.fine("one more", x.get(1, 1));
    }

    @Says(in = "Promise 17", words = "`compartment`: the compartment, 0 to 3")
    static void setQuotaCompartment(Check due) {
        Sealhouse x = new Sealhouse();
        for (int c = 0; c < 4; c++) {
            due.same("setQuota", x.setQuota(c, 20 + c), 16);
        }
        for (int c = 0; c < 4; c++) {
            due.same("setQuota", x.setQuota(c, 0), 20 + c);
        }
    }

    @Says(in = "Promise 17", words = "`quota`: the number of cells, 0 to 32")
    static void setQuotaNumber(Check due) {
        due.same("get of 0", Scenes.with(x -> x.setQuota(0, 0)).get(0, 1), 'q');
        due.same("get of 32", Scenes.with(x -> x.setQuota(0, 32)).get(0, 32), '-');
        for (int quota = 0; quota <= 32; quota++) {
            Sealhouse x = new Sealhouse();
            x.setQuota(1, quota);
            due.same("setQuota", x.setQuota(1, 7), quota);
        }
    }

    @Says(in = "Promise 17", words = "Returns the quota before.")
    static void setQuotaAnswers(Check due) {
        Sealhouse x = new Sealhouse();
        due.same("at first", x.setQuota(3, 32), 16);
        due.same("then", x.setQuota(3, 0), 32);
        due.same("then", x.setQuota(3, 0), 0);
        due.same("another's", x.setQuota(2, 5), 16);
    }

    @Says(in = "Promise 17", words = "Throws `IndexOutOfBoundsException` if there is no such compartment")
    static void setQuotaThrowsIndex(Check due) {
        Scenes.refusesAll(due, INDEX, Scenes.NO_COMPARTMENTS, "setQuota", (x, c) -> x.setQuota(c, 1));
        Scenes.refusesAll(due, INDEX, Scenes.NO_COMPARTMENTS, "setQuota of 33", (x, c) -> x.setQuota(c, 33));
    }

    @Says(in = "Promise 17", words = "Throws `IllegalArgumentException` if the number is out of range")
    static void setQuotaThrowsArgument(Check due) {
        int[] quotas = {-1, 33, Integer.MIN_VALUE, Integer.MAX_VALUE};
        Scenes.refusesAll(due, ARGUMENT, quotas, "setQuota", (x, quota) -> x.setQuota(0, quota));
        Scenes.refusesAll(due, ARGUMENT, quotas, "setQuota", (x, quota) -> x.setQuota(3, quota));
    }

    // ---- Promise 18 ----

    @Says(in = "Promise 18", words = "Returns how many cells count for the quota of a compartment.")
    static void counted(Check due) {
        Sealhouse x = new Sealhouse();
        due.same("at first", x.counted(0), 0);
        x.get(0, 3);
        due.same("what was got", x.counted(0), 3);
        x.free(0);
        due.same("what rests", x.counted(0), 3);
        x.get(0, 2);
        due.same("both", x.counted(0), 5);
        x.sweep();
        due.same("what was not swept", x.counted(0), 2);
        x.get(1, 17);
        due.same("what was refused does not", x.counted(0), 2);
    }

    @Says(in = "Promise 18", words = "`compartment`: the compartment, 0 to 3")
    static void countedCompartment(Check due) {
        Sealhouse x = new Sealhouse();
        for (int c = 0; c < 4; c++) {
            x.call(c);
            x.get(0, c + 1);
        }
        for (int c = 0; c < 4; c++) {
            due.same("counted", x.counted(c), c + 1);
        }
    }

    @Says(in = "Promise 18", words = "Returns the number of cells.")
    static void countedAnswers(Check due) {
        for (int cells = 1; cells <= 16; cells++) {
            int told = cells;
            due.same("made up", Scenes.with(x -> x.get(0, told)).counted(0), cells + (cells > 8 ? cells % 2 : 0));
        }
        due.same("all", Scenes.wide().counted(0), 32);
    }

    @Says(in = "Promise 18", words = "Throws `IndexOutOfBoundsException` if there is no such compartment")
    static void countedThrows(Check due) {
        Scenes.refusesAll(due, INDEX, Scenes.NO_COMPARTMENTS, "counted", (x, c) -> x.counted(c));
    }

    // ---- Promise 19 ----

    @Says(in = "Promise 19", words = "Returns whether a cell is free, got or rests.")
    static void stateOf(Check due) {
        Sealhouse x = new Sealhouse();
        due.same("at first", x.stateOf(64), 'f');
        x.get(0, 1);
        due.same("got", x.stateOf(64), 'g');
        due.same("the next one", x.stateOf(65), 'f');
        x.free(0);
        due.same("freed", x.stateOf(64), 'r');
        x.sweep();
        due.same("swept", x.stateOf(64), 'f');
    }

    @Says(in = "Promise 19", words = "`cell`: the cell, 0 to 95")
    static void stateOfCell(Check due) {
        Sealhouse x = Scenes.with(y -> y.setQuota(0, 32), y -> y.get(0, 28), y -> y.get(1, 3), y -> y.get(2, 1),
                y -> y.free(2));
        due.same("states", Scenes.states(x), "-".repeat(64) + "g".repeat(31) + "r");
    }

    @Says(in = "Promise 19", words = "Returns 'f' free, 'g' got, 'r' rests, '-' not of the heap.")
    static void stateOfAnswers(Check due) {
        Sealhouse x = Scenes.with(y -> y.get(0, 2), y -> y.get(1, 2), y -> y.free(0));
        due.same("rests", x.stateOf(65), 'r');
        due.same("got", x.stateOf(66), 'g');
        due.same("free", x.stateOf(68), 'f');
        due.same("not of the heap", x.stateOf(63), '-');
        due.same("not of the heap", x.stateOf(0), '-');
    }

    @Says(in = "Promise 19", words = "Throws `IndexOutOfBoundsException` if there is no such cell")
    static void stateOfThrows(Check due) {
        Scenes.refusesAll(due, INDEX, Scenes.NO_CELLS, "stateOf", (x, cell) -> x.stateOf(cell));
    }
}
