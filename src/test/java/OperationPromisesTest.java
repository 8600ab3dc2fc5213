import java.io.IOException;

/** Promises 1 to 13: a new object and the operations, each sentence of theirs. */
public final class OperationPromisesTest {
    private static final Class<?> INDEX = Scenes.INDEX;
    private static final Class<?> ARGUMENT = Scenes.ARGUMENT;
    private static final int[] NONE = Scenes.NO_REGISTERS;
    private static final Scenes.Maker NEW = Sealhouse::new;
    private static final Scenes.Use GLOBALS = x -> x.move(2, 7);
    private static final Scenes.Use SEALED = x -> x.seal(2, 7);

    private OperationPromisesTest() {
    }

    public static void main(String[] args) throws IOException {
        Sentences.run(OperationPromisesTest.class);
    }

    /** A machine with a sealed right in the register 0, one without permissions in 1,
            and one with its address out in 3. */
    private static Sealhouse poor() {
        return Scenes.with(x -> x.seal(0, 7), x -> x.restrict(1, 7, 0), x -> x.step(3, 7, 8));
    }

    private static void answers(Check due, String name, char answer, Scenes.Use call) {
        Scenes.answers(due, name, OperationPromisesTest::poor, answer, call);
    }

    // ---- Promise 1 ----

    @Says(in = "Promise 1",
            words = "Creates a machine whose compartment 0 runs at the depth 0, with 0 handed to it twice.")
    static void newObject(Check due) {
        Sealhouse x = new Sealhouse();
        due.same("depth", x.depth(), 0);
        due.same("runs", x.runs(0), 0);
        due.same("registers", Scenes.registers(x), "number 0; ".repeat(6) + Scenes.atFirst(6, 0, 0) + "; "
                + Scenes.atFirst(7, 0, 0) + "; ");
        due.same("traps", Scenes.traps(x), "t0 s0 p0 b0 l0 q0 m0 d0 f0 ");
        for (int c = 0; c < 4; c++) {
            due.same("counted", x.counted(c), 0);
        }
        due.same("checksum", x.checksum(), 0L);
        due.yes("isSound", x.isSound());
        Scenes.busy();
        due.same("another object does not matter", Scenes.whole(NEW), Scenes.whole(NEW));
    }

    // ---- Promise 2 ----

    @Says(in = "Promise 2", words = "Puts a number into a register.")
    static void put(Check due) {
        Sealhouse x = new Sealhouse();
        x.put(3, 5);
        due.same("over a number", Scenes.right(x, 3), "number 5");
        x.put(7, 8);
        due.same("over a right", Scenes.right(x, 7), "number 8");
        due.same("a number like an address is none", x.load(0, 7), 't');
    }

    @Says(in = "Promise 2", words = "`to`: the register that gets it, 0 to 7")
    static void putTo(Check due) {
        Scenes.getsIt(due, NEW, "number 17", (x, to) -> x.put(to, 17));
    }

    @Says(in = "Promise 2", words = "`n`: the number")
    static void putNumber(Check due) {
        for (int n : new int[] {Integer.MIN_VALUE, Integer.MIN_VALUE + 1, -1, 0, 1, 127, 128, Integer.MAX_VALUE}) {
            Sealhouse x = new Sealhouse();
            due.fine("put " + n, x.put(0, n));
            due.same("value", x.value(0), n);
            due.no("isRight", x.isRight(0));
        }
    }

    @Says(in = "Promise 2", words = "Returns '-', or the trap.")
    static void putAnswers(Check due) {
        answers(due, "put", '-', x -> x.put(0, 0));
        Scenes.answers(due, "put at the depth 7", () -> Scenes.deep(7), '-', x -> x.put(7, -1));
    }

    @Says(in = "Promise 2", words = "Throws `IndexOutOfBoundsException` if there is no such register, for any")
    static void putThrows(Check due) {
        Scenes.refusesAll(due, INDEX, NONE, "put", (x, to) -> x.put(to, 1));
    }

    // ---- Promise 3 ----

    @Says(in = "Promise 3", words = "Puts what a register holds into another one.")
    static void move(Check due) {
        Sealhouse x = Scenes.with(y -> y.step(7, 7, -8), y -> y.restrict(7, 7, 68), y -> y.put(1, -3));
        x.move(2, 7);
        due.same("a right", Scenes.right(x, 2), "0..8 at -8 may 68 seal 0");
        due.same("it stays", Scenes.right(x, 7), "0..8 at -8 may 68 seal 0");
        x.move(6, 1);
        due.same("a number over a right", Scenes.right(x, 6), "number -3");
        x.seal(3, 7);
        x.move(4, 3);
        due.same("a sealed right", Scenes.right(x, 4), "0..8 at -8 may 68 seal 1");
        Sealhouse rests = Scenes.with(y -> y.get(0, 1), y -> y.free(0), y -> y.move(1, 0));
        due.same("one whose base rests", Scenes.right(rests, 1), "64..65 at 64 may 95 seal 0");
    }

    @Says(in = "Promise 3", words = "`to`: the register that gets it, 0 to 7")
    static void moveTo(Check due) {
        Scenes.getsIt(due, NEW, Scenes.atFirst(7, 0, 0), (x, to) -> x.move(to, 7));
        Scenes.getsIt(due, NEW, "number 0", (x, to) -> x.move(to, 3));
    }

    @Says(in = "Promise 3", words = "`from`: the register that is used, 0 to 7")
    static void moveFrom(Check due) {
        for (int from = 0; from < 8; from++) {
            Sealhouse x = Scenes.alone(GLOBALS, from);
            due.fine("move", x.move(7 - from, from));
            due.same("from the register " + from, Scenes.right(x, 7 - from), Scenes.atFirst(7, 0, 0));
            due.fine("to itself", x.move(from, from));
            due.same("to itself", Scenes.right(x, from), Scenes.atFirst(7, 0, 0));
        }
    }

    @Says(in = "Promise 3", words = "Returns '-', or the trap.")
    static void moveAnswers(Check due) {
        for (int from = 0; from < 8; from++) {
            int told = from;
            answers(due, "move of " + from, '-', x -> x.move(5, told));
        }
    }

    @Says(in = "Promise 3", words = "Throws `IndexOutOfBoundsException` if there is no such register, for any")
    static void moveThrows(Check due) {
        Scenes.refusesAll(due, INDEX, NONE, "move to", (x, to) -> x.move(to, 7));
        Scenes.refusesAll(due, INDEX, NONE, "move from", (x, from) -> x.move(0, from));
        Scenes.refusesAll(due, INDEX, NONE, "move of both", (x, both) -> x.move(both, both));
    }

    // ---- Promise 4 ----

    @Says(in = "Promise 4",
            words = "Makes a right with narrower bounds, the address its base, of the same permissions; it traps for "
                    + "'b' if they are not within those of the old one behind rounding.")
    static void narrow(Check due) {
        Sealhouse x = Scenes.with(y -> y.step(1, 7, 16), y -> y.narrow(0, 1, 3, 2));
        due.same("the address its base", Scenes.right(x, 0), "3..5 at 3 may 95 seal 0");
        for (int p = 0; p < 128; p++) {
            int told = p;
            Sealhouse z = Scenes.with(y -> y.restrict(1, 6, told), y -> y.narrow(0, 1, 35, 1));
            due.same("the same permissions", Scenes.right(z, 0), "35..36 at 35 may " + (p & 111) + " seal 0");
        }
        for (int base = 0; base < 9; base++) {
            for (int length = 1; length < 9; length++) {
                Sealhouse z = Scenes.with(y -> y.narrow(0, 7, 3, 4));
                due.same("narrow " + base + " " + length, z.narrow(0, 0, base, length),
                        base >= 3 && base + length <= 7 ? '-' : 'b');
            }
        }
        Scenes.Maker sixteen = () -> Scenes.with(y -> y.setQuota(0, 32), y -> y.get(5, 20), y -> y.narrow(5, 5, 66,
                16));
        due.fine("rounded to the same", sixteen.make().narrow(0, 5, 67, 15));
        due.same("rounded to a lower base", sixteen.make().narrow(0, 5, 67, 16), 'b');
        due.fine("not rounded at the top", sixteen.make().narrow(0, 5, 74, 8));
        due.fine("rounded at the top", sixteen.make().narrow(0, 5, 72, 9));
        Scenes.Maker nine = () -> Scenes.with(y -> y.get(5, 16), y -> y.narrow(5, 5, 65, 8));
        due.fine("8 from 65 on", nine.make().narrow(0, 5, 65, 8));
        due.same("9 from 65 on", nine.make().narrow(0, 5, 65, 9), 'b');
        due.same("rounded to a higher top", Scenes.with(y -> y.get(5, 16), y -> y.narrow(5, 5, 66, 10))
                .narrow(0, 5, 68, 9), 'b');
        due.same("rounded to a lower base alone", Scenes.with(y -> y.get(5, 16), y -> y.narrow(5, 5, 67, 8))
                .narrow(0, 5, 67, 9), 'b');
    }

    @Says(in = "Promise 4", words = "`to`: the register that gets it, 0 to 7")
    static void narrowTo(Check due) {
        Scenes.getsIt(due, NEW, "1..3 at 1 may 95 seal 0", (x, to) -> x.narrow(to, 7, 1, 2));
    }

    @Says(in = "Promise 4", words = "`from`: the register that is used, 0 to 7")
    static void narrowFrom(Check due) {
        Scenes.usesIt(due, GLOBALS, (x, from) -> x.narrow(5, from, 1, 2));
    }

    @Says(in = "Promise 4", words = "`base`: its base ahead of rounding, 0 to 95")
    static void narrowBase(Check due) {
        Sealhouse x = new Sealhouse();
        due.fine("the base 0", x.narrow(0, 7, 0, 1));
        due.same("the base 0", Scenes.right(x, 0), "0..1 at 0 may 95 seal 0");
        Sealhouse z = Scenes.wide();
        due.fine("the base 95", z.narrow(0, 5, 95, 1));
        due.same("the base 95", Scenes.right(z, 0), "95..96 at 95 may 95 seal 0");
        Sealhouse u = Scenes.wide();
        u.narrow(0, 5, 67, 9);
        due.same("rounded down", Scenes.right(u, 0), "66..76 at 66 may 95 seal 0");
        due.same("in the range, though beyond the right", new Sealhouse().narrow(0, 7, 95, 1), 'b');
    }

    @Says(in = "Promise 4", words = "`length`: its length ahead of rounding, 1 to 96")
    static void narrowLength(Check due) {
        Sealhouse x = new Sealhouse();
        due.fine("the length 1", x.narrow(0, 7, 7, 1));
        due.same("the length 1", Scenes.right(x, 0), "7..8 at 7 may 95 seal 0");
        Sealhouse z = Scenes.wide();
        due.fine("the length 31", z.narrow(0, 5, 64, 31));
        due.same("the length 31", Scenes.right(z, 0), "64..96 at 64 may 95 seal 0");
        due.same("the length 96", new Sealhouse().narrow(0, 7, 0, 96), 'b');
        due.same("the length 96 from 95 on", new Sealhouse().narrow(0, 7, 95, 96), 'b');
    }

    @Says(in = "Promise 4", words = "Returns '-', or the trap.")
    static void narrowAnswers(Check due) {
        answers(due, "narrow", '-', x -> x.narrow(5, 3, 0, 8));
        answers(due, "narrow of a number", 't', x -> x.narrow(5, 2, 0, 8));
        answers(due, "narrow of a sealed right", 's', x -> x.narrow(5, 0, 0, 8));
        answers(due, "narrow of too much", 'b', x -> x.narrow(5, 1, 0, 9));
    }

    @Says(in = "Promise 4", words = "Throws `IndexOutOfBoundsException` if there is no such register, for any")
    static void narrowThrowsIndex(Check due) {
        Scenes.refusesAll(due, INDEX, NONE, "narrow to", (x, to) -> x.narrow(to, 7, 0, 1));
        Scenes.refusesAll(due, INDEX, NONE, "narrow from", (x, from) -> x.narrow(0, from, 0, 1));
        Scenes.refusesAll(due, INDEX, NONE, "narrow of nothing", (x, to) -> x.narrow(to, 7, -1, 97));
    }

    @Says(in = "Promise 4", words = "Throws `IllegalArgumentException` if the base or the length is out of range")
    static void narrowThrowsArgument(Check due) {
        int[] bases = {-1, 96, 97, Integer.MIN_VALUE, Integer.MAX_VALUE};
        int[] lengths = {0, -1, 97, Integer.MIN_VALUE, Integer.MAX_VALUE};
        Scenes.refusesAll(due, ARGUMENT, bases, "narrow to the base", (x, base) -> x.narrow(0, 7, base, 1));
        Scenes.refusesAll(due, ARGUMENT, lengths, "narrow to the length", (x, length) -> x.narrow(0, 7, 0, length));
        Scenes.refusesAll(due, ARGUMENT, lengths, "narrow of a number", (x, length) -> x.narrow(0, 2, 95, length));
        Scenes.refusesAll(due, ARGUMENT, bases, "narrow to both", (x, both) -> x.narrow(0, 7, both, both));
    }

    // ---- Promise 5 ----

    @Says(in = "Promise 5", words = "Makes a right with those permissions alone that are told, too.")
    static void restrict(Check due) {
        for (int had = 0; had < 128; had++) {
            int p = had;
            for (int told : new int[] {0, 1, 2, 4, 8, 16, 32, 64, 126, 127, 85, 42}) {
                Sealhouse x = Scenes.with(y -> y.step(1, 6, -8), y -> y.restrict(1, 1, p), y -> y.restrict(2, 1, told));
                due.same(told + " of " + p, Scenes.right(x, 2), "32..36 at 24 may " + (p & told & 111) + " seal 0");
            }
        }
    }

    @Says(in = "Promise 5", words = "`to`: the register that gets it, 0 to 7")
    static void restrictTo(Check due) {
        Scenes.getsIt(due, NEW, "0..8 at 0 may 5 seal 0", (x, to) -> x.restrict(to, 7, 5));
    }

    @Says(in = "Promise 5", words = "`from`: the register that is used, 0 to 7")
    static void restrictFrom(Check due) {
        Scenes.usesIt(due, GLOBALS, (x, from) -> x.restrict(5, from, 1));
    }

    @Says(in = "Promise 5", words = "`permissions`: the sum of permissions, 0 to 127")
    static void restrictPermissions(Check due) {
        Sealhouse x = new Sealhouse();
        due.fine("restrict to 127", x.restrict(0, 6, 127));
        due.same("127", x.ask(0, 'p'), 111);
        due.fine("restrict to 0", x.restrict(0, 6, 0));
        due.same("0", x.ask(0, 'p'), 0);
        due.fine("restrict of none", x.restrict(0, 0, 127));
        due.same("0 again", x.ask(0, 'p'), 0);
    }

    @Says(in = "Promise 5", words = "Returns '-', or the trap.")
    static void restrictAnswers(Check due) {
        answers(due, "restrict", '-', x -> x.restrict(5, 3, 0));
        answers(due, "restrict of what has no permissions", '-', x -> x.restrict(5, 1, 127));
        answers(due, "restrict of a number", 't', x -> x.restrict(5, 2, 127));
        answers(due, "restrict of a sealed right", 's', x -> x.restrict(5, 0, 127));
    }

    @Says(in = "Promise 5", words = "Throws `IndexOutOfBoundsException` if there is no such register, for any")
    static void restrictThrowsIndex(Check due) {
        Scenes.refusesAll(due, INDEX, NONE, "restrict to", (x, to) -> x.restrict(to, 7, 0));
        Scenes.refusesAll(due, INDEX, NONE, "restrict from", (x, from) -> x.restrict(0, from, 0));
        Scenes.refusesAll(due, INDEX, NONE, "restrict to too much", (x, from) -> x.restrict(0, from, 128));
    }

    @Says(in = "Promise 5", words = "Throws `IllegalArgumentException` if the sum is out of range")
    static void restrictThrowsArgument(Check due) {
        int[] sums = {-1, 128, Integer.MIN_VALUE, Integer.MAX_VALUE};
        Scenes.refusesAll(due, ARGUMENT, sums, "restrict", (x, sum) -> x.restrict(0, 7, sum));
        Scenes.refusesAll(due, ARGUMENT, sums, "restrict of a number", (x, sum) -> x.restrict(0, 2, sum));
    }

    // ---- Promise 6 ----

    @Says(in = "Promise 6", words = "Makes a right with another address.")
    static void step(Check due) {
        Sealhouse x = Scenes.with(y -> y.restrict(1, 6, 77), y -> y.narrow(1, 1, 33, 2), y -> y.step(2, 1, 4));
        due.same("all else alike", Scenes.right(x, 2), "33..35 at 37 may 77 seal 0");
        due.same("the old one stays", Scenes.right(x, 1), "33..35 at 33 may 77 seal 0");
        x.step(2, 2, -12);
        due.same("back", Scenes.right(x, 2), "33..35 at 25 may 77 seal 0");
        x.step(2, 2, -1);
        due.same("beyond", Scenes.right(x, 2), "number 24");
    }

    @Says(in = "Promise 6", words = "`to`: the register that gets it, 0 to 7")
    static void stepTo(Check due) {
        Scenes.getsIt(due, NEW, "0..8 at 16 may 95 seal 0", (x, to) -> x.step(to, 7, 16));
        Scenes.getsIt(due, NEW, "number 17", (x, to) -> x.step(to, 7, 17));
    }

    @Says(in = "Promise 6", words = "`from`: the register that is used, 0 to 7")
    static void stepFrom(Check due) {
        Scenes.usesIt(due, GLOBALS, (x, from) -> x.step(5, from, -8));
    }

    @Says(in = "Promise 6", words = "`steps`: by how much it is greater, -99 to 99")
    static void stepSteps(Check due) {
        for (int steps = -99; steps <= 99; steps++) {
            Sealhouse x = new Sealhouse();
            due.fine("step by " + steps, x.step(0, 7, steps));
            due.same("by " + steps, Scenes.right(x, 0), steps >= -8 && steps <= 16
                    ? "0..8 at " + steps + " may 95 seal 0" : "number " + steps);
        }
        Sealhouse low = Scenes.with(y -> y.step(0, 7, -8), y -> y.step(0, 0, -99));
        due.same("the least number", Scenes.right(low, 0), "number -107");
        Sealhouse high = Scenes.wide();
        high.step(0, 5, 40);
        high.step(0, 0, 99);
        due.same("the greatest number", Scenes.right(high, 0), "number 203");
    }

    @Says(in = "Promise 6", words = "Returns '-', or the trap.")
    static void stepAnswers(Check due) {
        answers(due, "step", '-', x -> x.step(5, 3, 8));
        answers(due, "step beyond", '-', x -> x.step(5, 3, 9));
        answers(due, "step of a number", 't', x -> x.step(5, 2, 0));
        answers(due, "step of a sealed right", 's', x -> x.step(5, 0, 0));
    }

    @Says(in = "Promise 6", words = "Throws `IndexOutOfBoundsException` if there is no such register, for any")
    static void stepThrowsIndex(Check due) {
        Scenes.refusesAll(due, INDEX, NONE, "step to", (x, to) -> x.step(to, 7, 1));
        Scenes.refusesAll(due, INDEX, NONE, "step from", (x, from) -> x.step(0, from, 1));
        Scenes.refusesAll(due, INDEX, NONE, "step by too much", (x, from) -> x.step(0, from, 100));
    }

    @Says(in = "Promise 6", words = "Throws `IllegalArgumentException` if the number is out of range")
    static void stepThrowsArgument(Check due) {
        int[] steps = {-100, 100, Integer.MIN_VALUE, Integer.MAX_VALUE};
        Scenes.refusesAll(due, ARGUMENT, steps, "step", (x, told) -> x.step(0, 7, told));
        Scenes.refusesAll(due, ARGUMENT, steps, "step of a number", (x, told) -> x.step(0, 2, told));
    }

    // ---- Promise 7 ----

    @Says(in = "Promise 7",
            words = "Loads from the cell at the address of a right; a right is loaded as a number through one without "
                    + "the permission 4, and without the permissions 2 and 64 through one without 64.")
    static void load(Check due) {
        for (int i = 0; i < 8; i++) {
            int steps = i;
            Sealhouse x = Scenes.with(y -> y.put(1, -9), y -> y.step(2, 7, steps), y -> y.store(2, 1),
                    y -> y.load(3, 2));
            due.same("the cell " + i, Scenes.right(x, 3), "number -9");
        }
        for (int via = 0; via < 128; via++) {
            for (int held : new int[] {0, 2, 64, 66, 95, 29}) {
                int through = via & 111 | 1;
                int kept = held;
                Sealhouse x = Scenes.with(y -> y.restrict(2, 7, kept), y -> y.step(2, 2, 9), y -> y.store(6, 2),
                        y -> y.restrict(3, 6, through), y -> y.load(4, 3));
                String right = "0..8 at 9 may " + ((through & 64) == 0 ? kept & 61 : kept) + " seal 0";
                due.same(kept + " through " + through, Scenes.right(x, 4), (through & 4) == 0 ? "number 9" : right);
                due.yes("the cell has it still", x.hasRight(32));
            }
        }
        for (int via = 1; via < 128; via += 2) {
            for (int n = -9; n <= 9; n++) {
                int through = via & 111;
                int kept = n;
                Sealhouse x = Scenes.with(y -> y.put(2, kept), y -> y.store(6, 2), y -> y.restrict(3, 6, through),
                        y -> y.load(4, 3));
                due.same(n + " through " + through, Scenes.right(x, 4), "number " + n);
            }
        }
        Sealhouse sealed = Scenes.with(y -> y.seal(2, 7), y -> y.store(7, 2), y -> y.load(3, 7),
                y -> y.restrict(4, 7, 63), y -> y.load(5, 4), y -> y.restrict(4, 7, 123), y -> y.load(4, 4));
        due.same("a sealed right", Scenes.right(sealed, 3), "0..8 at 0 may 95 seal 1");
        due.same("a sealed right without 64", Scenes.right(sealed, 5), "0..8 at 0 may 29 seal 1");
        due.same("a sealed right without 4", Scenes.right(sealed, 4), "number 0");
    }

    @Says(in = "Promise 7", words = "`to`: the register that gets it, 0 to 7")
    static void loadTo(Check due) {
        Scenes.getsIt(due, () -> Scenes.with(x -> x.put(1, 6), x -> x.store(7, 1)), "number 6", (x, to) -> x.load(to,
                7));
        Scenes.getsIt(due, () -> Scenes.with(x -> x.store(7, 7)), Scenes.atFirst(7, 0, 0), (x, to) -> x.load(to, 7));
    }

    @Says(in = "Promise 7", words = "`via`: the register with the right, 0 to 7")
    static void loadVia(Check due) {
        Scenes.usesIt(due, GLOBALS, (x, via) -> x.load(5, via));
    }

    @Says(in = "Promise 7", words = "Returns '-', or the trap.")
    static void loadAnswers(Check due) {
        answers(due, "load", '-', x -> x.load(5, 7));
        answers(due, "load through a number", 't', x -> x.load(5, 2));
        answers(due, "load through a sealed right", 's', x -> x.load(5, 0));
        answers(due, "load without 1", 'p', x -> x.load(5, 1));
        answers(due, "load from outside", 'b', x -> x.load(5, 3));
    }

    @Says(in = "Promise 7", words = "Throws `IndexOutOfBoundsException` if there is no such register, for any")
    static void loadThrows(Check due) {
        Scenes.refusesAll(due, INDEX, NONE, "load to", (x, to) -> x.load(to, 7));
        Scenes.refusesAll(due, INDEX, NONE, "load via", (x, via) -> x.load(0, via));
        Scenes.refusesAll(due, INDEX, NONE, "load of both", (x, both) -> x.load(both, both));
    }

    // ---- Promise 8 ----

    @Says(in = "Promise 8",
            words = "Stores into the cell at the address of a right; the permission 2 is needed, and 8 to store a "
                    + "right.")
    static void store(Check due) {
        for (int i = 0; i < 8; i++) {
            Sealhouse x = new Sealhouse();
            x.put(1, 9);
            x.step(2, 7, i);
            due.fine("store into the cell " + i, x.store(2, 1));
            for (int k = 0; k < 96; k++) {
                due.same("cell " + k, x.cell(k), k == i ? 9 : 0);
            }
        }
        for (int p = 0; p < 128; p++) {
            int told = p & 95;
            Scenes.Maker maker = () -> Scenes.with(x -> x.restrict(2, 7, told));
            due.same("a number through " + told, maker.make().store(2, 1), (told & 2) == 0 ? 'p' : '-');
            due.same("a right through " + told, maker.make().store(2, 7), (told & 10) == 10 ? '-' : 'p');
        }
        Sealhouse x = Scenes.with(y -> y.step(2, 7, 9), y -> y.seal(2, 2), y -> y.store(7, 2));
        due.same("a sealed right", x.cell(0) + " " + x.hasRight(0), "9 true");
        x.load(3, 7);
        due.same("all of it", Scenes.right(x, 3), "0..8 at 9 may 95 seal 1");
        due.same("the register has it still", Scenes.right(x, 2), "0..8 at 9 may 95 seal 1");
    }

    @Says(in = "Promise 8", words = "`via`: the register with the right, 0 to 7")
    static void storeVia(Check due) {
        Scenes.usesIt(due, GLOBALS, (x, via) -> x.store(via, 7 - via));
        Scenes.usesIt(due, GLOBALS, (x, via) -> x.store(via, via));
    }

    @Says(in = "Promise 8", words = "`from`: the register that is used, 0 to 7")
    static void storeFrom(Check due) {
        for (int from = 0; from < 7; from++) {
            Sealhouse x = new Sealhouse();
            for (int r = 0; r < 7; r++) {
                x.put(r, 50 + r);
            }
            due.fine("store of the register " + from, x.store(7, from));
            due.same("cell", x.cell(0), 50 + from);
        }
        Sealhouse x = new Sealhouse();
        due.fine("store of the register 7", x.store(7, 7));
        due.yes("hasRight", x.hasRight(0));
    }

    @Says(in = "Promise 8", words = "Returns '-', or the trap.")
    static void storeAnswers(Check due) {
        answers(due, "store", '-', x -> x.store(7, 0));
        answers(due, "store through a number", 't', x -> x.store(2, 0));
        answers(due, "store through a sealed right", 's', x -> x.store(0, 2));
        answers(due, "store without 2", 'p', x -> x.store(1, 2));
        answers(due, "store to outside", 'b', x -> x.store(3, 2));
        answers(due, "store of what may not be kept", 'l', x -> x.store(7, 6));
    }

    @Says(in = "Promise 8", words = "Throws `IndexOutOfBoundsException` if there is no such register, for any")
    static void storeThrows(Check due) {
        Scenes.refusesAll(due, INDEX, NONE, "store via", (x, via) -> x.store(via, 0));
        Scenes.refusesAll(due, INDEX, NONE, "store from", (x, from) -> x.store(7, from));
        Scenes.refusesAll(due, INDEX, NONE, "store of both", (x, both) -> x.store(both, both));
    }

    // ---- Promise 9 ----

    @Says(in = "Promise 9", words = "Seals a right with the seal of the compartment that runs, its number plus 1.")
    static void seal(Check due) {
        due.same("at first", Scenes.right(Scenes.with(SEALED), 2), "0..8 at 0 may 95 seal 1");
        for (int c = 0; c < 4; c++) {
            int called = c;
            Sealhouse x = Scenes.with(y -> y.restrict(0, 7, 35), y -> y.step(0, 0, 16), y -> y.call(called),
                    y -> y.seal(3, 0));
            due.same("by " + c, Scenes.right(x, 3), "0..8 at 16 may 3 seal " + (c + 1));
            due.same("the old one stays", Scenes.right(x, 0), "0..8 at 16 may 3 seal 0");
            x.call(3 - c);
            x.seal(0, 6);
            due.same("by the next one", x.ask(0, 's'), 4 - c);
            x.leave();
            x.seal(5, 6);
            due.same("by " + c + " again", x.ask(5, 's'), c + 1);
        }
    }

    @Says(in = "Promise 9", words = "`to`: the register that gets it, 0 to 7")
    static void sealTo(Check due) {
        Scenes.getsIt(due, NEW, "0..8 at 0 may 95 seal 1", (x, to) -> x.seal(to, 7));
    }

    @Says(in = "Promise 9", words = "`from`: the register that is used, 0 to 7")
    static void sealFrom(Check due) {
        Scenes.usesIt(due, GLOBALS, (x, from) -> x.seal(5, from));
    }

    @Says(in = "Promise 9", words = "Returns '-', or the trap.")
    static void sealAnswers(Check due) {
        answers(due, "seal", '-', x -> x.seal(5, 7));
        answers(due, "seal of what has no permissions", '-', x -> x.seal(5, 1));
        answers(due, "seal of what is at its end", '-', x -> x.seal(5, 3));
        answers(due, "seal of a number", 't', x -> x.seal(5, 2));
        answers(due, "seal of a sealed right", 's', x -> x.seal(5, 0));
    }

    @Says(in = "Promise 9", words = "Throws `IndexOutOfBoundsException` if there is no such register, for any")
    static void sealThrows(Check due) {
        Scenes.refusesAll(due, INDEX, NONE, "seal to", (x, to) -> x.seal(to, 7));
        Scenes.refusesAll(due, INDEX, NONE, "seal from", (x, from) -> x.seal(0, from));
        Scenes.refusesAll(due, INDEX, NONE, "seal of both", (x, both) -> x.seal(both, both));
    }

    // ---- Promise 10 ----

    @Says(in = "Promise 10",
            words = "Takes the seal from a right; it traps for 's' if this is not that of the compartment that runs.")
    static void unseal(Check due) {
        for (int sealing = 0; sealing < 4; sealing++) {
            for (int opening = 0; opening < 4; opening++) {
                int first = sealing;
                int second = opening;
                Sealhouse x = Scenes.with(y -> y.call(first), y -> y.step(0, 7, 16), y -> y.restrict(0, 0, 18),
                        y -> y.seal(0, 0), y -> y.leave(), y -> y.call(second));
                due.same(second + " opens that of " + first, x.unseal(3, 0), first == second ? '-' : 's');
                if (first == second) {
                    due.same("all else alike", Scenes.right(x, 3),
                            8 * first + ".." + (8 * first + 8) + " at " + (8 * first + 16) + " may 18 seal 0");
                    due.same("the old one stays", x.ask(0, 's'), first + 1);
                }
            }
            int called = sealing;
            due.same("what is not sealed", Scenes.with(y -> y.call(called)).unseal(0, 7), 's');
        }
    }

    @Says(in = "Promise 10", words = "`to`: the register that gets it, 0 to 7")
    static void unsealTo(Check due) {
        Scenes.getsIt(due, () -> Scenes.with(SEALED), Scenes.atFirst(7, 0, 0), (x, to) -> x.unseal(to, 2));
    }

    @Says(in = "Promise 10", words = "`from`: the register that is used, 0 to 7")
    static void unsealFrom(Check due) {
        Scenes.usesIt(due, SEALED, (x, from) -> x.unseal(5, from));
    }

    @Says(in = "Promise 10", words = "Returns '-', or the trap.")
    static void unsealAnswers(Check due) {
        answers(due, "unseal", '-', x -> x.unseal(5, 0));
        answers(due, "unseal of a number", 't', x -> x.unseal(5, 2));
        answers(due, "unseal of what is not sealed", 's', x -> x.unseal(5, 7));
        answers(due, "unseal of what has no permissions", 's', x -> x.unseal(5, 1));
    }

    @Says(in = "Promise 10", words = "Throws `IndexOutOfBoundsException` if there is no such register, for any")
    static void unsealThrows(Check due) {
        Scenes.refusesAll(due, INDEX, NONE, "unseal to", (x, to) -> x.unseal(to, 7));
        Scenes.refusesAll(due, INDEX, NONE, "unseal from", (x, from) -> x.unseal(0, from));
        Scenes.refusesAll(due, INDEX, NONE, "unseal of both", (x, both) -> x.unseal(both, both));
    }

    // ---- Promise 11 ----

    @Says(in = "Promise 11", words = "Calls a compartment.")
    static void call(Check due) {
        Sealhouse x = Scenes.with(y -> y.put(0, 5), y -> y.put(1, 6), y -> y.put(2, 7), y -> y.call(2));
        due.same("depth", x.depth(), 1);
        due.same("runs", x.runs(0) + " " + x.runs(1), "0 2");
        due.same("registers", Scenes.registers(x), "number 5; number 6; number 0; number 0; number 0; number 0; "
                + Scenes.atFirst(6, 2, 1) + "; " + Scenes.atFirst(7, 2, 1) + "; ");
        due.fine("one that runs", x.call(2));
        due.same("another part", Scenes.right(x, 6), Scenes.atFirst(6, 2, 2));
    }

    @Says(in = "Promise 11", words = "`compartment`: the compartment, 0 to 3")
    static void callCompartment(Check due) {
        for (int c = 0; c < 4; c++) {
            Sealhouse x = new Sealhouse();
            due.fine("call", x.call(c));
            due.same("runs", x.runs(1), c);
        }
    }

    @Says(in = "Promise 11", words = "Returns '-', or the trap.")
    static void callAnswers(Check due) {
        Scenes.answers(due, "call", NEW, '-', x -> x.call(0));
        Scenes.answers(due, "call to the depth 7", () -> Scenes.deep(6), '-', x -> x.call(0));
        Scenes.answers(due, "call beyond it", () -> Scenes.deep(7), 'd', x -> x.call(0));
    }

    @Says(in = "Promise 11", words = "Throws `IndexOutOfBoundsException` if there is no such compartment")
    static void callThrows(Check due) {
        Scenes.refusesAll(due, INDEX, Scenes.NO_COMPARTMENTS, "call", (x, c) -> x.call(c));
        for (int c : Scenes.NO_COMPARTMENTS) {
            Scenes.refuses(due, () -> Scenes.deep(7), INDEX, "call at the depth 7 of " + c, x -> x.call(c));
        }
    }

    // ---- Promise 12 ----

    @Says(in = "Promise 12", words = "Calls through a sealed right; it traps for 's' if it is not sealed.")
    static void callSealed(Check due) {
        Sealhouse x = Scenes.with(y -> y.call(3), y -> y.step(0, 7, 4), y -> y.seal(0, 0), y -> y.leave(),
                y -> y.move(4, 0), y -> y.put(1, 6));
        due.fine("callSealed", x.callSealed(4));
        due.same("depth", x.depth(), 1);
        due.same("runs", x.runs(1), 3);
        due.same("registers", Scenes.registers(x),
                "24..32 at 28 may 95 seal 0; number 6; number 0; number 0; number 0; "
                + "number 0; " + Scenes.atFirst(6, 3, 1) + "; " + Scenes.atFirst(7, 3, 1) + "; ");
        due.same("what is not sealed", new Sealhouse().callSealed(7), 's');
        due.same("what is no more", Scenes.with(SEALED, y -> y.unseal(2, 2)).callSealed(2), 's');
        due.same("a seal is not that of who calls", Scenes.with(y -> y.seal(0, 7), y -> y.call(2)).callSealed(0), '-');
        due.same("its own", Scenes.with(SEALED).callSealed(2), '-');
    }

    @Says(in = "Promise 12", words = "`via`: the register with the right, 0 to 7")
    static void callSealedVia(Check due) {
        Scenes.usesIt(due, SEALED, (x, via) -> x.callSealed(via));
    }

    @Says(in = "Promise 12", words = "Returns '-', or the trap.")
    static void callSealedAnswers(Check due) {
        answers(due, "callSealed", '-', x -> x.callSealed(0));
        answers(due, "callSealed through a number", 't', x -> x.callSealed(2));
        answers(due, "callSealed through what is not sealed", 's', x -> x.callSealed(7));
        Scenes.Maker deepest = () -> {
            Sealhouse x = Scenes.deep(7);
            x.seal(3, 7);
            return x;
        };
        Scenes.answers(due, "callSealed at the depth 7", deepest, 'd', x -> x.callSealed(3));
        Scenes.Maker last = () -> {
            Sealhouse x = Scenes.deep(6);
            x.seal(3, 7);
            return x;
        };
        Scenes.answers(due, "callSealed to the depth 7", last, '-', x -> x.callSealed(3));
    }

    @Says(in = "Promise 12", words = "Throws `IndexOutOfBoundsException` if there is no such register")
    static void callSealedThrows(Check due) {
        Scenes.refusesAll(due, INDEX, NONE, "callSealed", (x, via) -> x.callSealed(via));
    }

    // ---- Promise 13 ----

    @Says(in = "Promise 13", words = "Returns from the call that runs.")
    static void leave(Check due) {
        Sealhouse x = Scenes.with(y -> y.put(4, 5), y -> y.call(2), y -> y.put(4, 6), y -> y.call(3), y -> y.put(0, 7),
                y -> y.leave());
        due.same("runs", x.runs(1), 2);
        due.throwsA(INDEX, "runs(2)", () -> x.runs(2));
        due.same("its registers", Scenes.right(x, 4), "number 6");
        due.same("what was handed back", Scenes.right(x, 0), "number 7");
        x.leave();
        due.same("its registers", Scenes.right(x, 4), "number 5");
        due.same("handed back again", Scenes.right(x, 0), "number 7");
    }

    @Says(in = "Promise 13", words = "Returns the depth then.")
    static void leaveAnswers(Check due) {
        Sealhouse x = Scenes.deep(7);
        for (int d = 6; d >= 0; d--) {
            due.same("leave", x.leave(), d);
            due.same("depth", x.depth(), d);
        }
    }

    @Says(in = "Promise 13", words = "Throws `IllegalStateException` if the depth is 0")
    static void leaveThrows(Check due) {
        Class<?> state = IllegalStateException.class;
        Scenes.Maker filled = () -> Scenes.with(x -> x.move(0, 6), x -> x.store(6, 6), x -> x.put(3, 3), x -> x.get(4,
                2));
        Scenes.refuses(due, NEW, state, "leave", x -> x.leave());
        Scenes.refuses(due, filled, state, "leave", x -> x.leave());
        Scenes.refuses(due, () -> Scenes.with(x -> x.call(1), x -> x.leave()), state, "leave", x -> x.leave());
        Scenes.refuses(due, () -> Scenes.with(x -> x.call(1), x -> x.load(2, 2)), state, "leave", x -> x.leave());
        due.same("at the depth 1", Scenes.deep(1).leave(), 0);
    }
}
