import java.io.IOException;
import java.util.NoSuchElementException;

/** Promises 20 to 33: what is asked and the figures, each sentence of theirs. */
public final class AskedPromisesTest {
    private static final Class<?> INDEX = Scenes.INDEX;
    private static final Class<?> ARGUMENT = Scenes.ARGUMENT;
    private static final int[] NONE = Scenes.NO_REGISTERS;
    private static final Scenes.Maker NEW = Sealhouse::new;

    private AskedPromisesTest() {
    }

    public static void main(String[] args) throws IOException {
        Sentences.run(AskedPromisesTest.class);
    }

    /** A machine with a different number in each register, and behind a call that waits with others. */
    private static Sealhouse numbered() {
        Sealhouse x = new Sealhouse();
        for (int r = 0; r < 8; r++) {
            x.put(r, -r);
        }
        x.call(1);
        for (int r = 0; r < 8; r++) {
            x.put(r, 10 + r);
        }
        return x;
    }

    // ---- Promise 20 ----

    @Says(in = "Promise 20", words = "Returns what a register holds, as a number.")
    static void value(Check due) {
        due.same("a number", Scenes.with(x -> x.put(0, -5)).value(0), -5);
        due.same("a right", new Sealhouse().value(6), 32);
        due.same("a sealed right", Scenes.with(x -> x.seal(0, 6)).value(0), 32);
        due.same("what was not put", new Sealhouse().value(1), 0);
    }

    @Says(in = "Promise 20", words = "`register`: the register, 0 to 7")
    static void valueRegister(Check due) {
        Sealhouse x = numbered();
        for (int r = 0; r < 8; r++) {
            due.same("value", x.value(r), 10 + r);
        }
    }

    @Says(in = "Promise 20", words = "Returns the number, or the address.")
    static void valueAnswers(Check due) {
        due.same("the least number", Scenes.with(x -> x.put(0, Integer.MIN_VALUE)).value(0), Integer.MIN_VALUE);
        due.same("the greatest number", Scenes.with(x -> x.put(0, Integer.MAX_VALUE)).value(0), Integer.MAX_VALUE);
        due.same("the least address", Scenes.with(x -> x.step(0, 7, -8)).value(0), -8);
        due.same("the greatest address", Scenes.with(x -> x.setQuota(0, 32), x -> x.get(0, 32), x -> x.step(0, 0, 40))
                .value(0), 104);
    }

    @Says(in = "Promise 20", words = "Throws `IndexOutOfBoundsException` if there is no such register")
    static void valueThrows(Check due) {
        Scenes.refusesAll(due, INDEX, NONE, "value", (x, r) -> x.value(r));
    }

    // ---- Promise 21 ----

    @Says(in = "Promise 21", words = "Returns whether a register holds a right.")
    static void isRight(Check due) {
        due.yes("a right", new Sealhouse().isRight(7));
        due.no("a number", new Sealhouse().isRight(0));
        due.no("a number like its address", Scenes.with(x -> x.put(6, 32)).isRight(6));
        due.yes("a sealed right without permissions", Scenes.with(x -> x.restrict(0, 7, 0), x -> x.seal(0,
                0)).isRight(0));
        due.yes("one whose cells rest", Scenes.with(x -> x.get(0, 1), x -> x.free(0)).isRight(0));
        due.no("one whose cells were swept", Scenes.with(x -> x.get(0, 1), x -> x.free(0), x -> x.sweep()).isRight(0));
    }

    @Says(in = "Promise 21", words = "`register`: the register, 0 to 7")
    static void isRightRegister(Check due) {
        for (int r = 0; r < 8; r++) {
            Sealhouse x = numbered();
            x.get(r, 1);
            for (int k = 0; k < 8; k++) {
                due.same("isRight", x.isRight(k), k == r);
            }
        }
    }

    @Says(in = "Promise 21", words = "Returns whether it does.")
    static void isRightAnswers(Check due) {
        Sealhouse x = new Sealhouse();
        for (int r = 0; r < 8; r++) {
            due.same("isRight", x.isRight(r), r >= 6);
        }
    }

    @Says(in = "Promise 21", words = "Throws `IndexOutOfBoundsException` if there is no such register")
    static void isRightThrows(Check due) {
        Scenes.refusesAll(due, INDEX, NONE, "isRight", (x, r) -> x.isRight(r));
    }

    // ---- Promise 22 ----

    @Says(in = "Promise 22", words = "Returns a number of a right in a register.")
    static void ask(Check due) {
        Sealhouse x = Scenes.with(y -> y.narrow(0, 6, 33, 2), y -> y.restrict(0, 0, 70), y -> y.step(0, 0, 10),
                y -> y.call(2), y -> y.seal(1, 0));
        due.same("base", x.ask(1, 'b'), 33);
        due.same("top", x.ask(1, 't'), 35);
        due.same("permissions", x.ask(1, 'p'), 70);
        due.same("seal", x.ask(1, 's'), 3);
        due.same("no seal", x.ask(0, 's'), 0);
    }

    @Says(in = "Promise 22", words = "`register`: the register, 0 to 7")
    static void askRegister(Check due) {
        for (int r = 0; r < 8; r++) {
            Sealhouse x = numbered();
            x.get(1, 3);
            x.get(r, 2);
            due.same("ask", x.ask(r, 'b'), 67);
        }
    }

    @Says(in = "Promise 22", words = "`what`: 'b' its base, 't' its top, 'p' its permissions, 's' its seal")
    static void askWhat(Check due) {
        Sealhouse x = new Sealhouse();
        due.same("the least base", x.ask(7, 'b'), 0);
        due.same("its top", x.ask(7, 't'), 8);
        due.same("its permissions", x.ask(7, 'p'), 95);
        due.same("its seal", x.ask(7, 's'), 0);
        due.same("the greatest top", Scenes.wide().ask(5, 't'), 96);
        due.same("the least permissions", Scenes.with(y -> y.restrict(0, 7, 0)).ask(0, 'p'), 0);
        due.same("the greatest permissions", x.ask(6, 'p'), 111);
        due.same("the greatest seal", Scenes.with(y -> y.call(3), y -> y.seal(0, 7)).ask(0, 's'), 4);
    }

    @Says(in = "Promise 22", words = "Returns the number.")
    static void askAnswers(Check due) {
        for (int p = 0; p < 128; p++) {
            int told = p;
            Sealhouse x = Scenes.with(y -> y.restrict(0, 7, told));
            due.same("permissions", x.ask(0, 'p'), p & 95);
        }
        for (int base = 0; base < 8; base++) {
            for (int top = base + 1; top <= 8; top++) {
                Sealhouse x = new Sealhouse();
                x.narrow(0, 7, base, top - base);
                due.same("base", x.ask(0, 'b'), base);
                due.same("top", x.ask(0, 't'), top);
            }
        }
    }

    @Says(in = "Promise 22", words = "Throws `IndexOutOfBoundsException` if there is no such register")
    static void askThrowsIndex(Check due) {
        Scenes.refusesAll(due, INDEX, NONE, "ask", (x, r) -> x.ask(r, 'b'));
        Scenes.refusesAll(due, INDEX, NONE, "ask for nothing", (x, r) -> x.ask(r, 'x'));
    }

    @Says(in = "Promise 22", words = "Throws `IllegalArgumentException` if there is no such question")
    static void askThrowsArgument(Check due) {
        int[] signs = {'a', 'B', 'T', 'P', 'S', 'c', 'q', 'u', '-', ' ', 0, 0x162, 0xffff};
        Scenes.refusesAll(due, ARGUMENT, signs, "ask of a right", (x, sign) -> x.ask(7, (char) sign));
        Scenes.refusesAll(due, ARGUMENT, signs, "ask of a number", (x, sign) -> x.ask(1, (char) sign));
        Sealhouse x = new Sealhouse();
        for (int sign = 0; sign <= 0xffff; sign++) {
            if ("btps".indexOf(sign) < 0 && sign % 127 == 5) {
                char told = (char) sign;
                due.throwsA(ARGUMENT, "ask " + sign, () -> new Sealhouse().ask(7, told));
            }
        }
    }

    @Says(in = "Promise 22", words = "Throws `NoSuchElementException` if it holds a number")
    static void askThrowsNone(Check due) {
        Scenes.Maker numbers = () -> Scenes.with(x -> x.put(7, 0), x -> x.step(6, 6, 13), x -> x.put(1,
                Integer.MIN_VALUE));
        for (int r = 0; r < 8; r++) {
            for (char what : "btps".toCharArray()) {
                int register = r;
                Scenes.refuses(due, numbers, NoSuchElementException.class, "ask " + what + " of " + r,
                        x -> x.ask(register, what));
            }
        }
    }

    // ---- Promise 23 ----

    @Says(in = "Promise 23", words = "Returns what a cell holds, as a number.")
    static void cell(Check due) {
        Sealhouse x = Scenes.with(y -> y.put(0, -7), y -> y.store(7, 0), y -> y.step(1, 7, 1), y -> y.store(1, 1),
                y -> y.store(6, 6));
        due.same("a number", x.cell(0), -7);
        due.same("a right", x.cell(1), 1);
        due.same("one to the stack", x.cell(32), 32);
        due.same("what was not stored", x.cell(2), 0);
    }

    /** A machine with a number of its own in each cell of the globals, of all parts of the stack and of the heap. */
    private static Sealhouse filled() {
        Sealhouse x = Scenes.wide();
        x.move(0, 5);
        for (int i = 0; i < 32; i++) {
            x.step(4, 5, i);
            x.put(3, 1064 + i);
            x.store(4, 3);
        }
        for (int d = 0; d < 8; d++) {
            for (int i = 0; i < 8; i++) {
                x.step(4, 7, i);
                x.put(3, 1000 + x.value(4));
                x.store(4, 3);
                x.step(4, 6, i / 2);
                x.put(3, 1000 + x.value(4));
                x.store(4, 3);
            }
            if (d < 7) {
                x.call((d + 1) % 4);
            }
        }
        return x;
    }

    @Says(in = "Promise 23", words = "`cell`: the cell, 0 to 95")
    static void cellCell(Check due) {
        for (int i = 0; i < 96; i++) {
            due.same("cell " + i, filled().cell(i), 1000 + i);
        }
    }

    @Says(in = "Promise 23", words = "Returns the number, or the address.")
    static void cellAnswers(Check due) {
        for (int n : new int[] {Integer.MIN_VALUE, -1, Integer.MAX_VALUE}) {
            due.same("a number", Scenes.with(x -> x.put(0, n), x -> x.store(7, 0)).cell(0), n);
        }
        due.same("the least address", Scenes.with(x -> x.step(0, 7, -8), x -> x.store(7, 0)).cell(0), -8);
        due.same("the greatest address", Scenes.with(x -> x.setQuota(0, 32), x -> x.get(0, 32), x -> x.step(0, 0, 40),
                x -> x.store(7, 0)).cell(0), 104);
    }

    @Says(in = "Promise 23", words = "Throws `IndexOutOfBoundsException` if there is no such cell")
    static void cellThrows(Check due) {
        Scenes.refusesAll(due, INDEX, Scenes.NO_CELLS, "cell", (x, i) -> x.cell(i));
    }

    // ---- Promise 24 ----

    @Says(in = "Promise 24", words = "Returns whether a cell holds a right.")
    static void hasRight(Check due) {
        Sealhouse x = Scenes.with(y -> y.put(0, 32), y -> y.store(7, 0), y -> y.step(1, 7, 1), y -> y.store(1, 7));
        due.no("a number", x.hasRight(0));
        due.yes("a right", x.hasRight(1));
        x.store(1, 0);
        due.no("a number over it", x.hasRight(1));
        due.yes("a sealed right without permissions", Scenes.with(y -> y.restrict(0, 7, 16), y -> y.seal(0, 0),
                y -> y.store(7, 0)).hasRight(0));
        due.yes("one whose cells rest", Scenes.with(y -> y.get(0, 1), y -> y.store(7, 0), y -> y.free(0)).hasRight(0));
    }

    @Says(in = "Promise 24", words = "`cell`: the cell, 0 to 95")
    static void hasRightCell(Check due) {
        for (int i = 0; i < 8; i++) {
            Sealhouse x = new Sealhouse();
            x.step(0, 7, i);
            x.store(0, 7);
            for (int k = 0; k < 96; k++) {
                due.same("hasRight " + k, x.hasRight(k), k == i);
            }
        }
        for (int i = 64; i < 96; i++) {
            Sealhouse x = Scenes.wide();
            x.step(0, 5, i - 64);
            x.store(0, 7);
            for (int k = 0; k < 96; k++) {
                due.same("hasRight " + k, x.hasRight(k), k == i);
            }
        }
    }

    @Says(in = "Promise 24", words = "Returns whether it does.")
    static void hasRightAnswers(Check due) {
        for (int i = 0; i < 96; i++) {
            due.no("at first", new Sealhouse().hasRight(i));
        }
        due.yes("then", Scenes.with(x -> x.store(7, 7)).hasRight(0));
    }

    @Says(in = "Promise 24", words = "Throws `IndexOutOfBoundsException` if there is no such cell")
    static void hasRightThrows(Check due) {
        Scenes.refusesAll(due, INDEX, Scenes.NO_CELLS, "hasRight", (x, i) -> x.hasRight(i));
    }

    // ---- Promise 25 ----

    @Says(in = "Promise 25", words = "Returns the depth of the call that runs.")
    static void depth(Check due) {
        due.same("at first", new Sealhouse().depth(), 0);
        due.same("in a call", Scenes.with(x -> x.call(1)).depth(), 1);
        due.same("behind it", Scenes.with(x -> x.call(1), x -> x.leave()).depth(), 0);
        due.same("behind a trap", Scenes.with(x -> x.call(1), x -> x.call(1), x -> x.load(0, 0)).depth(), 1);
        due.same("behind a trap at the depth 0", Scenes.with(x -> x.load(0, 0)).depth(), 0);
    }

    @Says(in = "Promise 25", words = "Returns the depth.")
    static void depthAnswers(Check due) {
        for (int d = 0; d < 8; d++) {
            due.same("depth", Scenes.deep(d).depth(), d);
        }
    }

    // ---- Promise 26 ----

    @Says(in = "Promise 26", words = "Returns the compartment that runs at a depth.")
    static void runs(Check due) {
        Sealhouse x = Scenes.with(y -> y.call(2), y -> y.call(1), y -> y.call(3));
        due.same("runs", x.runs(0) + " " + x.runs(1) + " " + x.runs(2) + " " + x.runs(3), "0 2 1 3");
        x.leave();
        x.leave();
        x.call(0);
        due.same("runs", x.runs(0) + " " + x.runs(1) + " " + x.runs(2), "0 2 0");
    }

    @Says(in = "Promise 26", words = "`depth`: the depth")
    static void runsDepth(Check due) {
        Sealhouse x = new Sealhouse();
        for (int d = 1; d < 8; d++) {
            x.call(d * 3 % 4);
        }
        for (int d = 0; d < 8; d++) {
            due.same("runs " + d, x.runs(d), d * 3 % 4);
        }
    }

    @Says(in = "Promise 26", words = "Returns the compartment.")
    static void runsAnswers(Check due) {
        for (int c = 0; c < 4; c++) {
            int called = c;
            due.same("runs", Scenes.with(x -> x.call(called)).runs(1), c);
        }
    }

    @Says(in = "Promise 26", words = "Throws `IndexOutOfBoundsException` if there is no such call")
    static void runsThrows(Check due) {
        int[] wrong = {-1, 8, Integer.MIN_VALUE, Integer.MAX_VALUE};
        Scenes.refusesAll(due, INDEX, wrong, "runs", (x, d) -> x.runs(d));
        for (int depth = 0; depth < 8; depth++) {
            int deep = depth;
            for (int d = depth + 1; d < 10; d++) {
                int told = d;
                Scenes.refuses(due, () -> Scenes.deep(deep), INDEX, "runs " + d + " at " + depth, x -> x.runs(told));
            }
        }
        Scenes.refuses(due, () -> Scenes.with(x -> x.call(1), x -> x.leave()), INDEX, "runs 1 behind it",
                x -> x.runs(1));
    }

    // ---- Promise 27 ----

    @Says(in = "Promise 27", words = "Returns whether a compartment reaches a cell.")
    static void reaches(Check due) {
        Sealhouse x = Scenes.with(y -> y.get(0, 2), y -> y.call(2));
        due.yes("what was handed on", x.reaches(2, 65));
        due.no("behind it", x.reaches(2, 66));
        x.put(0, 0);
        due.no("what it has no more", x.reaches(2, 65));
        due.yes("what the caller has", x.reaches(0, 65));
    }

    @Says(in = "Promise 27", words = "`compartment`: the compartment, 0 to 3")
    static void reachesCompartment(Check due) {
        for (int c = 0; c < 4; c++) {
            due.same("its globals alone", Scenes.reached(Scenes.with(x -> x.call(3)), c),
                    new String[] {"0-7 32-35 ", "8-15 ", "16-23 ", "24-31 36-39 "}[c]);
        }
    }

    @Says(in = "Promise 27", words = "`cell`: the cell, 0 to 95")
    static void reachesCell(Check due) {
        Sealhouse x = Scenes.wide();
        due.yes("the first cell", x.reaches(0, 0));
        due.yes("the last cell", x.reaches(0, 95));
        due.no("the first cell", x.reaches(1, 0));
        due.no("the last cell", x.reaches(1, 95));
        for (int i = 64; i < 96; i++) {
            Sealhouse y = Scenes.wide();
            y.narrow(0, 5, i, 1);
            y.put(5, 0);
            due.same("the cell " + i, Scenes.reached(y, 0), "0-7 32-35 " + i + "-" + i + " ");
        }
    }

    @Says(in = "Promise 27", words = "Returns whether it does.")
    static void reachesAnswers(Check due) {
        Sealhouse x = Scenes.deep(7);
        due.same("all parts of the stack", Scenes.reached(x, 0), "0-7 32-63 ");
    }

    @Says(in = "Promise 27", words = "Throws `IndexOutOfBoundsException` if there is no such compartment or cell")
    static void reachesThrows(Check due) {
        Scenes.refusesAll(due, INDEX, Scenes.NO_COMPARTMENTS, "reaches of", (x, c) -> x.reaches(c, 0));
        Scenes.refusesAll(due, INDEX, Scenes.NO_CELLS, "reaches", (x, i) -> x.reaches(3, i));
        Scenes.refusesAll(due, INDEX, Scenes.NO_CELLS, "reaches of none", (x, i) -> x.reaches(-1, i));
    }

    // ---- Promise 28 ----

    @Says(in = "Promise 28", words = "Returns whether a compartment has ever reached a cell.")
    static void hasReached(Check due) {
        Sealhouse x = Scenes.with(y -> y.get(0, 2), y -> y.call(2), y -> y.put(0, 0));
        due.yes("what was handed on", x.hasReached(2, 65));
        due.no("what is reached no more", x.reaches(2, 65));
        due.no("behind it", x.hasReached(2, 66));
        due.no("another one", x.hasReached(1, 65));
        x.leave();
        due.yes("its part of the stack", x.hasReached(2, 36));
    }

    @Says(in = "Promise 28", words = "`compartment`: the compartment, 0 to 3")
    static void hasReachedCompartment(Check due) {
        for (int c = 0; c < 4; c++) {
            int called = c;
            Sealhouse x = Scenes.with(y -> y.call(called), y -> y.get(2, 1), y -> y.leave());
            for (int other = 0; other < 4; other++) {
                due.same("hasReached", x.hasReached(other, 64), other == c);
            }
        }
    }

    @Says(in = "Promise 28", words = "`cell`: the cell, 0 to 95")
    static void hasReachedCell(Check due) {
        Sealhouse x = Scenes.with(y -> y.setQuota(0, 32), y -> y.get(5, 32), y -> y.put(5, 0));
        due.yes("the first cell", x.hasReached(0, 0));
        due.yes("the last cell", x.hasReached(0, 95));
        due.no("the first cell", x.hasReached(3, 0));
        due.no("the last cell", x.hasReached(3, 95));
    }

    @Says(in = "Promise 28", words = "Returns whether it has.")
    static void hasReachedAnswers(Check due) {
        Sealhouse x = Scenes.deep(7);
        while (x.depth() > 0) {
            x.leave();
        }
        due.same("all parts of the stack", Scenes.everReached(x, 0), "x".repeat(8) + ".".repeat(24) + "x".repeat(32)
                + ".".repeat(32));
        due.same("what it has now", Scenes.reached(x, 0), "0-7 32-35 ");
    }

    @Says(in = "Promise 28", words = "Throws `IndexOutOfBoundsException` if there is no such compartment or cell")
    static void hasReachedThrows(Check due) {
        Scenes.refusesAll(due, INDEX, Scenes.NO_COMPARTMENTS, "hasReached of", (x, c) -> x.hasReached(c, 0));
        Scenes.refusesAll(due, INDEX, Scenes.NO_CELLS, "hasReached", (x, i) -> x.hasReached(3, i));
        Scenes.refusesAll(due, INDEX, Scenes.NO_CELLS, "hasReached of none", (x, i) -> x.hasReached(-1, i));
    }

    // ---- Promise 29 ----

    private static final Scenes.Use[] TRAPPING = {x -> x.load(0, 0), x -> x.unseal(0, 7), x -> trap(x, 'p'),
        x -> x.narrow(0, 7, 8, 1), x -> x.store(7, 6), x -> x.get(0, 17), x -> trap(x, 'm'), x -> trap(x, 'd'),
        x -> x.free(7)};

    private static char trap(Sealhouse x, char cause) {
        if (cause == 'p') {
            x.restrict(0, 7, 0);
            return x.load(0, 0);
        }
        if (cause == 'm') {
            x.setQuota(0, 32);
            x.get(0, 32);
            x.call(1);
            return x.get(0, 1);
        }
        char answer = '-';
        while (answer == '-') {
            answer = x.call(0);
        }
        return answer;
    }

    @Says(in = "Promise 29", words = "Returns how many traps there were for a cause.")
    static void traps(Check due) {
        for (int i = 0; i < TRAPPING.length; i++) {
            char cause = Scenes.CAUSES.charAt(i);
            Sealhouse x = new Sealhouse();
            due.same("the trap", TRAPPING[i].on(x), cause);
            due.same("traps", Scenes.traps(x), "t0 s0 p0 b0 l0 q0 m0 d0 f0 ".replace(cause + "0", cause + "1"));
        }
    }

    @Says(in = "Promise 29", words = "`cause`: 't', 's', 'p', 'b', 'l', 'q', 'm', 'd' or 'f'")
    static void trapsCause(Check due) {
        Sealhouse x = new Sealhouse();
        for (Scenes.Use trapping : TRAPPING) {
            trapping.on(x);
        }
        due.same("traps", Scenes.traps(x), "t1 s1 p1 b1 l1 q1 m1 d1 f1 ");
    }

    @Says(in = "Promise 29", words = "Returns the number of traps.")
    static void trapsAnswers(Check due) {
        Sealhouse x = new Sealhouse();
        due.same("at first", x.traps('t'), 0);
        for (int i = 1; i <= 200; i++) {
            x.load(0, 0);
            due.same("traps", x.traps('t'), i);
        }
        Sealhouse y = Scenes.with(z -> z.call(1), z -> z.call(2), z -> z.load(0, 0), z -> z.load(0, 0),
                z -> z.load(0, 2));
        due.same("at all depths", y.traps('t'), 3);
        Check.answer(() -> y.load(8, 0));
        due.same("an exception is none", y.traps('t'), 3);
    }

    @Says(in = "Promise 29", words = "Throws `IllegalArgumentException` if there is no such cause")
    static void trapsThrows(Check due) {
        int[] signs = {'a', 'c', 'g', 'r', 'u', 'T', 'S', 'P', 'B', 'L', 'Q', 'M', 'D', 'F', '-', ' ', 0, 0x174,
                0xffff};
        Scenes.refusesAll(due, ARGUMENT, signs, "traps", (x, sign) -> x.traps((char) sign));
    }

    // ---- Promise 30 ----

    @Says(in = "Promise 30", words = "Returns a sum over all cells.")
    static void checksum(Check due) {
        for (int i = 0; i < 8; i++) {
            Sealhouse x = new Sealhouse();
            x.step(0, 7, i);
            x.put(1, 1);
            x.store(0, 1);
            due.same("1 in the cell " + i, x.checksum(), power(95 - i));
        }
        Sealhouse last = Scenes.wide();
        last.step(0, 5, 31);
        last.put(1, 1);
        last.store(0, 1);
        due.same("1 in the last cell", last.checksum(), 1L);
    }

    private static long power(int times) {
        long power = 1;
        for (int i = 0; i < times; i++) {
            power *= 31;
        }
        return power;
    }

    @Says(in = "Promise 30",
            words = "Returns 0 at first, then for each cell 31 times itself plus the value as a number, plus 7 if it "
                    + "holds a right.")
    static void checksumAnswers(Check due) {
        due.same("at first", new Sealhouse().checksum(), 0L);
        long sum = 0;
        for (int i = 0; i < 96; i++) {
            sum = 31 * sum + 1000 + i;
        }
        due.same("numbers in all cells", filled().checksum(), sum);
        due.same("the least number", Scenes.with(x -> x.put(0, Integer.MIN_VALUE), x -> x.store(7, 0)).checksum(),
                Integer.MIN_VALUE * power(95));
        due.same("the greatest number", Scenes.with(x -> x.put(0, Integer.MAX_VALUE), x -> x.store(7, 0)).checksum(),
                Integer.MAX_VALUE * power(95));
        due.same("a right", Scenes.with(x -> x.step(0, 7, -8), x -> x.store(7, 0)).checksum(), -power(95));
        due.same("a sealed one", Scenes.with(x -> x.seal(0, 7), x -> x.store(7, 0)).checksum(), 7 * power(95));
        due.same("a number like it", Scenes.with(x -> x.put(0, 0), x -> x.store(7, 0)).checksum(), 0L);
    }

    // ---- Promise 31 ----

    @Says(in = "Promise 31", words = "Returns the share of cells that hold rights.")
    static void rightShare(Check due) {
        due.same("at first", new Sealhouse().rightShare(), 0f);
        due.same("numbers do not count", filled().rightShare(), 0f);
        due.same("one", Scenes.with(x -> x.store(7, 7)).rightShare(), 1f / 96f);
        due.same("a sealed one", Scenes.with(x -> x.seal(0, 7), x -> x.store(6, 0)).rightShare(), 1f / 96f);
        Sealhouse last = Scenes.wide();
        last.step(0, 5, 31);
        last.store(0, 7);
        due.same("in the last cell", last.rightShare(), 1f / 96f);
    }

    @Says(in = "Promise 31", words = "Returns their number divided by 96, both converted to float.")
    static void rightShareAnswers(Check due) {
        Sealhouse x = Scenes.wide();
        for (int i = 0; i < 32; i++) {
            x.step(0, 5, i);
            x.store(0, 7);
            due.same("rights in " + (i + 1), x.rightShare(), (float) (i + 1) / (float) 96);
        }
        x.store(7, 7);
        due.same("33 of 96", x.rightShare(), 0.34375f);
        due.same("96 of 96", full().rightShare(), 1f);
    }

    /** A machine in which all parts of the stack, the heap and all globals hold rights. */
    private static Sealhouse full() {
        Sealhouse x = Scenes.wide();
        for (int i = 0; i < 32; i++) {
            x.step(4, 5, i);
            x.store(4, 5);
        }
        for (int d = 0; d < 8; d++) {
            for (int i = 0; i < 8; i++) {
                x.step(4, 7, i);
                x.store(4, 7);
                x.step(4, 6, i / 2);
                x.store(4, 6);
            }
            if (d < 7) {
                x.call((d + 1) % 4);
            }
        }
        return x;
    }

    // ---- Promise 32 ----

    @Says(in = "Promise 32", words = "Returns the mean number of cells that compartments reach.")
    static void meanReach(Check due) {
        due.same("12, 8, 8 and 8", new Sealhouse().meanReach(), 9.0);
        due.same("one of the heap", Scenes.with(x -> x.get(0, 1)).meanReach(), 9.25);
        due.same("both reach it", Scenes.with(x -> x.get(0, 1), x -> x.call(1)).meanReach(), 10.5);
        due.same("twice reached is once", Scenes.with(x -> x.get(0, 1), x -> x.move(1, 0)).meanReach(), 9.25);
        due.same("what was reached once", Scenes.with(x -> x.get(0, 1), x -> x.put(0, 0)).meanReach(), 9.0);
    }

    @Says(in = "Promise 32", words = "Returns the sum over all four divided by 4, both converted to double.")
    static void meanReachAnswers(Check due) {
        for (int cells = 1; cells <= 8; cells++) {
            int told = cells;
            due.same("36 and " + cells, Scenes.with(x -> x.get(0, told)).meanReach(), (36 + cells) / 4.0);
            for (int c = 1; c < 4; c++) {
                int called = c;
                due.same("40 and " + cells, Scenes.with(x -> x.call(called), x -> x.get(0, told)).meanReach(),
                        (40 + cells) / 4.0);
            }
        }
        for (int i = 0; i < 4; i++) {
            Sealhouse last = Scenes.deep(6);
            last.call(1);
            last.narrow(0, 6, 60 + i, 4 - i);
            due.same("a right to what ends with the stack", last.meanReach(), 16.0);
        }
        Sealhouse x = Scenes.wide();
        x.move(0, 5);
        for (int d = 1; d < 8; d++) {
            x.call(d % 4);
        }
        due.same("the heap, two parts and the globals each", x.meanReach(), 48.0);
    }

    // ---- Promise 33 ----

    @Says(in = "Promise 33", words = "Returns whether all is sound:")
    static void isSound(Check due) {
        due.yes("at first", new Sealhouse().isSound());
        due.yes("a busy one", Scenes.busy().isSound());
        due.yes("a full one", full().isSound());
        due.yes("numbers alone", filled().isSound());
    }

    @Says(in = "Promise 33", words = "no compartment reaches a free cell")
    static void soundFreeCells(Check due) {
        Scenes.Use[] life = {x -> x.get(0, 2), x -> x.store(7, 0), x -> x.call(1), x -> x.store(7, 0), x -> x.free(0),
            x -> x.sweep(), x -> x.get(0, 1), x -> x.leave(), x -> x.get(1, 9), x -> x.free(0), x -> x.free(1),
            x -> x.sweep()};
        Sealhouse x = new Sealhouse();
        for (int i = 0; i < life.length; i++) {
            life[i].on(x);
            due.yes("isSound behind " + i, x.isSound());
            for (int c = 0; c < 4; c++) {
                for (int cell = 64; cell < 67; cell++) {
                    due.no(c + " reaches the free cell " + cell, x.stateOf(cell) == 'f' && x.reaches(c, cell));
                }
            }
        }
    }

    @Says(in = "Promise 33", words = "or a part of the stack behind the depth;")
    static void soundParts(Check due) {
        Sealhouse x = new Sealhouse();
        for (int d = 1; d < 8; d++) {
            x.move(0, 6);
            x.call(d % 4);
            x.store(0, 6);
            due.yes("isSound at the depth " + d, x.isSound());
        }
        for (int d = 6; d >= 0; d--) {
            x.leave();
            due.yes("isSound at the depth " + d, x.isSound());
            for (int c = 0; c < 4; c++) {
                due.no(c + " reaches behind " + d, x.reaches(c, 36 + 4 * d));
            }
        }
    }

    @Says(in = "Promise 33",
            words = "each right in a register or a cell lies within the memory, with bounds that need no rounding;")
    static void soundBounds(Check due) {
        for (int cells = 1; cells <= 32; cells++) {
            int told = cells;
            Sealhouse x = Scenes.with(y -> y.setQuota(0, 32), y -> y.get(0, told), y -> y.store(7, 0));
            due.yes("isSound with " + cells, x.isSound());
            for (int base = 64; base < x.ask(0, 't'); base++) {
                Sealhouse z = Scenes.with(y -> y.setQuota(0, 32), y -> y.get(0, told), y -> y.store(7, 0));
                z.narrow(1, 0, base, z.ask(0, 't') - base);
                due.yes("isSound, narrowed to " + base, z.isSound());
            }
        }
        due.yes("an address beyond the memory", Scenes.with(y -> y.setQuota(0, 32), y -> y.get(0, 32),
                y -> y.step(0, 0, 40)).isSound());
        due.yes("an address ahead of it", Scenes.with(y -> y.step(0, 7, -8)).isSound());
    }

    @Says(in = "Promise 33", words = "and what was got and what rests counts for quotas.")
    static void soundCounts(Check due) {
        due.yes("got", Scenes.with(x -> x.get(0, 9)).isSound());
        due.yes("rests", Scenes.with(x -> x.get(0, 9), x -> x.free(0)).isSound());
        due.yes("swept", Scenes.with(x -> x.get(0, 9), x -> x.free(0), x -> x.sweep()).isSound());
        due.yes("beyond a quota that was set later", Scenes.with(x -> x.get(0, 9), x -> x.setQuota(0, 0)).isSound());
        due.yes("freed by another one", Scenes.with(x -> x.get(0, 9), x -> x.call(1), x -> x.free(0)).isSound());
    }

    @Says(in = "Promise 33", words = "Returns whether this holds.")
    static void isSoundAnswers(Check due) {
        Sealhouse x = Scenes.busy();
        while (x.depth() > 0) {
            due.yes("isSound at the depth " + x.depth(), x.isSound());
            x.leave();
        }
        x.sweep();
        due.yes("isSound", x.isSound());
    }
}
