import java.io.IOException;

/** The terms up to the compartments: values, bounds, memory and what a call begins with. */
public final class ValueWordsTest {
    private static final int[] NUMBERS = {Integer.MIN_VALUE, -105, -1, 0, 1, 32, 96, Integer.MAX_VALUE};

    private ValueWordsTest() {
    }

    public static void main(String[] args) throws IOException {
        Sentences.run(ValueWordsTest.class);
    }

    // ---- What it is ----

    @Says(in = "What it is", words = "An object is used for at most 512 calls after it has been made")
    static void fiveHundredAndTwelveCalls(Check due) {
        Sealhouse x = new Sealhouse();
        for (int i = 0; i < 511; i++) {
            due.same("load " + i, x.load(0, 0), 't');
        }
        due.same("traps", x.traps('t'), 511);
        Sealhouse y = new Sealhouse();
        for (int i = 0; i < 255; i++) {
            due.fine("call " + i, y.call(i % 4));
            due.same("leave " + i, y.leave(), 0);
        }
        due.same("depth", y.depth(), 0);
        due.yes("isSound", y.isSound());
    }

    // ---- Terms ----

    @Says(in = "Terms", words = "No right grows")
    static void noRightGrows(Check due) {
        Scenes.Use small = x -> x.narrow(0, 7, 2, 2);
        due.same("a lower base", Scenes.with(small).narrow(0, 0, 1, 3), 'b');
        due.same("a higher top", Scenes.with(small).narrow(0, 0, 2, 3), 'b');
        due.same("both", Scenes.with(small).narrow(0, 0, 0, 8), 'b');
        for (int p = 0; p < 128; p++) {
            int told = p;
            Sealhouse x = Scenes.with(y -> y.restrict(0, 7, told), y -> y.restrict(1, 0, 127), y -> y.narrow(2, 1, 0,
                    8),
                    y -> y.step(2, 2, 1), y -> y.seal(2, 2), y -> y.unseal(2, 2), y -> y.move(3, 2));
            due.same("permissions of " + p, Scenes.right(x, 3), "0..8 at 1 may " + (p & 95) + " seal 0");
        }
    }

    @Says(in = "Terms", words = "what was freed is never reached by an old right")
    static void freedIsNotReached(Check due) {
        Sealhouse x = Scenes.with(y -> y.get(0, 2), y -> y.narrow(2, 0, 65, 1), y -> y.store(7, 2), y -> y.store(6, 0),
                y -> y.call(1), y -> y.store(7, 0), y -> y.leave(), y -> y.free(0), y -> y.sweep(), y -> y.get(5, 2),
                y -> y.put(5, 0));
        for (int c = 0; c < 4; c++) {
            due.no(c + " reaches 64", x.reaches(c, 64));
            due.no(c + " reaches 65", x.reaches(c, 65));
        }
        due.fine("load", x.load(0, 7));
        due.same("from a cell", Scenes.right(x, 0), "number 65");
        due.same("in a register", Scenes.right(x, 2), "number 65");
        due.same("as a right", x.load(0, 2), 't');
    }

    // ---- Values ----

    @Says(in = "Values", words = "A cell and a register hold a number, an int, or a right.")
    static void holdANumberOrARight(Check due) {
        for (int n : NUMBERS) {
            Sealhouse x = Scenes.with(y -> y.put(2, n), y -> y.store(7, 2), y -> y.load(3, 7));
            due.same("value", x.value(2), n);
            due.same("cell", x.cell(0), n);
            due.same("value, stored and loaded", x.value(3), n);
            due.no("isRight", x.isRight(3));
            due.no("hasRight", x.hasRight(0));
            due.fine("a right over it", x.store(7, 7));
            due.yes("hasRight", x.hasRight(0));
            due.fine("a number over the right", x.store(7, 2));
            due.no("hasRight", x.hasRight(0));
            due.same("cell", x.cell(0), n);
        }
    }

    @Says(in = "Values",
            words = "A right has a base and a top, an address, a sum of permissions, and a seal from 0, for none, to "
                    + "4.")
    static void partsOfARight(Check due) {
        due.same("seal 0", Scenes.right(Scenes.with(y -> y.step(7, 7, 5)), 7), "0..8 at 5 may 95 seal 0");
        for (int c = 0; c < 4; c++) {
            int called = c;
            Sealhouse x = Scenes.with(y -> y.get(0, 16), y -> y.narrow(0, 0, 79, 1), y -> y.step(0, 0, 9),
                    y -> y.restrict(0, 0, 21), y -> y.call(called), y -> y.seal(0, 0));
            due.same("seal " + (c + 1), Scenes.right(x, 0), "79..80 at 88 may 21 seal " + (c + 1));
        }
    }

    @Says(in = "Values", words = "The permissions are 1 reading")
    static void reading(Check due) {
        due.fine("load with 1", Scenes.with(x -> x.restrict(0, 7, 1)).load(1, 0));
        due.same("load without 1", Scenes.with(x -> x.restrict(0, 7, 126)).load(1, 0), 'p');
        due.fine("store without 1", Scenes.with(x -> x.restrict(0, 7, 126)).store(0, 7));
    }

    @Says(in = "Values", words = "2 writing")
    static void writing(Check due) {
        due.fine("store with 2", Scenes.with(x -> x.restrict(0, 7, 2)).store(0, 1));
        due.same("store without 2", Scenes.with(x -> x.restrict(0, 7, 125)).store(0, 1), 'p');
        due.same("store of a right without 2", Scenes.with(x -> x.restrict(0, 7, 125)).store(0, 7), 'p');
        due.fine("load without 2", Scenes.with(x -> x.restrict(0, 7, 125)).load(1, 0));
    }

    @Says(in = "Values", words = "4 loading rights")
    static void loadingRights(Check due) {
        Scenes.Use kept = x -> x.store(7, 7);
        due.same("with 1 and 4", Scenes.right(Scenes.with(kept, x -> x.restrict(0, 7, 5), x -> x.load(1, 0)), 1),
                "0..8 at 0 may 29 seal 0");
        due.same("without 4", Scenes.right(Scenes.with(kept, x -> x.restrict(0, 7, 123), x -> x.load(1, 0)), 1),
                "number 0");
        Scenes.Use number = x -> x.put(2, 6);
        due.same("a number without 4", Scenes.right(Scenes.with(number, x -> x.store(7, 2), x -> x.restrict(0, 7, 1),
                x -> x.load(1, 0)), 1), "number 6");
    }

    @Says(in = "Values", words = "8 storing rights")
    static void storingRights(Check due) {
        due.fine("a right with 2 and 8", Scenes.with(x -> x.restrict(0, 7, 10)).store(0, 7));
        due.same("a right without 8", Scenes.with(x -> x.restrict(0, 7, 119)).store(0, 7), 'p');
        due.same("a right with 8 alone", Scenes.with(x -> x.restrict(0, 7, 8)).store(0, 7), 'p');
        due.fine("a number without 8", Scenes.with(x -> x.restrict(0, 7, 119)).store(0, 1));
    }

    @Says(in = "Values", words = "16 being kept anywhere")
    static void keptAnywhere(Check due) {
        due.fine("stored with 16", Scenes.with(x -> x.restrict(0, 7, 16)).store(7, 0));
        due.same("stored without 16", Scenes.with(x -> x.restrict(0, 7, 111)).store(7, 0), 'l');
        Sealhouse x = Scenes.with(y -> y.call(1), y -> y.restrict(0, 7, 16), y -> y.leave());
        due.same("handed back with 16", Scenes.right(x, 0), "8..16 at 8 may 16 seal 0");
        Sealhouse z = Scenes.with(y -> y.call(1), y -> y.restrict(0, 7, 111), y -> y.leave());
        due.same("handed back without 16", Scenes.right(z, 0), "number 0");
    }

    @Says(in = "Values", words = "32 storing rights that may not be kept anywhere")
    static void storingUnkept(Check due) {
        due.fine("with 2, 8 and 32", Scenes.with(x -> x.restrict(0, 6, 42)).store(0, 6));
        due.same("without 32", Scenes.with(x -> x.restrict(0, 6, 95)).store(0, 6), 'l');
        due.same("without 8", Scenes.with(x -> x.restrict(0, 6, 34)).store(0, 6), 'p');
        due.fine("what has 16, without 32", Scenes.with(x -> x.restrict(0, 6, 10)).store(0, 7));
    }

    @Says(in = "Values", words = "and 64 handing on writing")
    static void handingOnWriting(Check due) {
        Scenes.Use kept = x -> x.store(6, 7);
        due.same("with 64", Scenes.right(Scenes.with(kept, x -> x.restrict(0, 6, 69), x -> x.load(1, 0)), 1),
                "0..8 at 0 may 95 seal 0");
        due.same("without 64", Scenes.right(Scenes.with(kept, x -> x.restrict(0, 6, 63), x -> x.load(1, 0)), 1),
                "0..8 at 0 may 29 seal 0");
    }

    @Says(in = "Values", words = "A right that is asked for as a number is its address.")
    static void rightAsANumber(Check due) {
        for (int steps = -8; steps <= 16; steps++) {
            int told = steps;
            Sealhouse x = Scenes.with(y -> y.step(0, 7, told), y -> y.move(1, 6), y -> y.call(0), y -> y.step(2, 7, 7),
                    y -> y.store(2, 0));
            due.same("value", x.value(0), steps);
            due.same("cell", x.cell(7), steps);
            long sum = steps + 7;
            for (int i = 8; i < 96; i++) {
                sum *= 31;
            }
            due.same("checksum", x.checksum(), sum);
        }
    }

    // ---- Bounds ----

    private static void narrows(Check due, int[][] cases) {
        for (int[] c : cases) {
            Sealhouse x = Scenes.wide();
            due.fine("narrow " + c[0] + " " + c[1], x.narrow(1, 5, c[0], c[1]));
            due.same("narrow " + c[0] + " " + c[1], Scenes.right(x, 1),
                    c[2] + ".." + c[3] + " at " + c[2] + " may 95 seal 0");
        }
    }

    @Says(in = "Bounds", words = "The length of a right is its top less its base.")
    static void lengthOfARight(Check due) {
        narrows(due, new int[][] {{64, 1, 64, 65}, {95, 1, 95, 96}, {71, 8, 71, 79}, {88, 8, 88, 96}, {70, 10, 70,
                80}});
    }

    @Says(in = "Bounds",
            words = "Bounds are rounded: with the least one of 1, 2, 4, 8 and 16 that does so, the base down and the "
                    + "top up to numbers that can be divided by it, the length being at most 8 times it then.")
    static void rounding(Check due) {
        // 8 cells need no rounding, wherever they are
        narrows(due, new int[][] {{64, 8, 64, 72}, {65, 8, 65, 73}, {87, 8, 87, 95}, {65, 7, 65, 72}});
        // more are rounded by 2, as long as 16 are enough
        narrows(due, new int[][] {{64, 9, 64, 74}, {65, 9, 64, 74}, {65, 10, 64, 76}, {87, 9, 86, 96}, {64, 16, 64, 80},
            {66, 15, 66, 82}, {65, 15, 64, 80}, {66, 16, 66, 82}, {65, 14, 64, 80}, {67, 14, 66, 82}, {80, 16, 80,
            96}});
        // and by 4, when rounding by 2 makes 18
        narrows(due, new int[][] {{65, 16, 64, 84}, {67, 15, 66, 82}, {67, 16, 64, 84}, {64, 17, 64, 84},
            {66, 17, 64, 84}, {79, 17, 76, 96}, {65, 30, 64, 96}, {64, 32, 64, 96}, {67, 29, 64, 96}, {68, 28, 68,
            96}});
        for (int base = 64; base < 96; base++) {
            for (int length = 1; base + length <= 96; length++) {
                int[] bounds = Model.rounded(base, base + length);
                narrows(due, new int[][] {{base, length, bounds[0], bounds[1]}});
            }
        }
        // no right is longer than 32, so that what is rounded by 8 or 16 is beyond each
        for (int length = 33; length <= 96; length++) {
            for (int base = 0; base < 96; base += 5) {
                due.same("narrow " + base + " " + length, Scenes.wide().narrow(1, 5, base, length), 'b');
            }
        }
    }

    private static void steps(Check due, String from, Scenes.Maker maker, int register, int steps, String answer) {
        Sealhouse x = maker.make();
        due.fine("step from " + from + " by " + steps, x.step(4, register, steps));
        due.same("step from " + from + " by " + steps, Scenes.right(x, 4), answer);
    }

    @Says(in = "Bounds", words = "The address of a right is from its base less 8 to its top plus 8")
    static void addressesOfRights(Check due) {
        steps(due, "globals", Sealhouse::new, 7, -8, "0..8 at -8 may 95 seal 0");
        steps(due, "globals", Sealhouse::new, 7, 16, "0..8 at 16 may 95 seal 0");
        steps(due, "stack", Sealhouse::new, 6, -8, "32..36 at 24 may 111 seal 0");
        steps(due, "stack", Sealhouse::new, 6, 12, "32..36 at 44 may 111 seal 0");
        steps(due, "heap", Scenes::wide, 5, -8, "64..96 at 56 may 95 seal 0");
        steps(due, "heap", Scenes::wide, 5, 40, "64..96 at 104 may 95 seal 0");
        Scenes.Maker one = () -> Scenes.with(x -> x.narrow(0, 7, 3, 1), x -> x.step(0, 0, -8));
        steps(due, "one cell", one, 0, 0, "3..4 at -5 may 95 seal 0");
        steps(due, "one cell", one, 0, 17, "3..4 at 12 may 95 seal 0");
        // a narrower right has its own bounds for this, and is at its base then
        Scenes.Maker far = () -> Scenes.with(x -> x.step(0, 7, 16), x -> x.narrow(0, 0, 0, 1));
        steps(due, "a narrowed right", far, 0, 0, "0..1 at 0 may 95 seal 0");
    }

    @Says(in = "Bounds", words = "a right that would get another address becomes a number, this address.")
    static void addressesOfNumbers(Check due) {
        steps(due, "globals", Sealhouse::new, 7, -9, "number -9");
        steps(due, "globals", Sealhouse::new, 7, 17, "number 17");
        steps(due, "globals", Sealhouse::new, 7, 99, "number 99");
        steps(due, "globals", Sealhouse::new, 7, -99, "number -99");
        steps(due, "stack", Sealhouse::new, 6, -9, "number 23");
        steps(due, "stack", Sealhouse::new, 6, 13, "number 45");
        steps(due, "heap", Scenes::wide, 5, -9, "number 55");
        steps(due, "heap", Scenes::wide, 5, 41, "number 105");
        Scenes.Maker low = () -> Scenes.with(x -> x.step(0, 7, -8));
        steps(due, "the least address", low, 0, -1, "number -9");
        steps(due, "the least address", low, 0, 25, "number 17");
        steps(due, "the least address", low, 0, -99, "number -107");
        Sealhouse x = Scenes.with(y -> y.step(7, 7, 17));
        due.same("it is a right no more", x.step(0, 7, -17), 't');
    }

    // ---- Memory ----

    @Says(in = "Memory", words = "There are the cells 0 to 95, each with the number 0 at first")
    static void cellsAtFirst(Check due) {
        Sealhouse x = new Sealhouse();
        for (int i = 0; i < 96; i++) {
            due.same("cell " + i, x.cell(i), 0);
            due.no("hasRight " + i, x.hasRight(i));
        }
        due.throwsA(Scenes.INDEX, "cell(96)", () -> x.cell(96));
        due.throwsA(Scenes.INDEX, "cell(-1)", () -> x.cell(-1));
    }

    @Says(in = "Memory", words = "the compartment c, 0 to 3, has the cells from 8 c on, 8 of them, as its globals")
    static void globals(Check due) {
        for (int c = 0; c < 4; c++) {
            int called = c;
            Scenes.Use begin = y -> y.call(called);
            Sealhouse x = Scenes.with(begin, y -> y.put(1, 5), y -> y.store(7, 1), y -> y.step(0, 7, 7),
                    y -> y.store(0, 1));
            due.same("the first global", x.cell(8 * c), 5);
            due.same("the last global", x.cell(8 * c + 7), 5);
            due.same("ahead of the first", Scenes.with(begin, y -> y.step(0, 7, -1)).store(0, 1), 'b');
            due.same("behind the last", Scenes.with(begin, y -> y.step(0, 7, 8)).store(0, 1), 'b');
        }
    }

    @Says(in = "Memory",
            words = "the call at the depth d, from 0, has the cells from 32 plus 4 d on, 4 of them, as its part of "
                    + "the stack")
    static void partsOfTheStack(Check due) {
        for (int d = 0; d < 8; d++) {
            int depth = d;
            Sealhouse x = Scenes.deep(depth);
            x.put(1, 5);
            x.store(6, 1);
            x.step(0, 6, 3);
            x.store(0, 1);
            due.same("the first cell", x.cell(32 + 4 * d), 5);
            due.same("the last cell", x.cell(35 + 4 * d), 5);
            x.step(0, 6, -1);
            due.same("ahead of the first", x.store(0, 1), 'b');
            Sealhouse y = Scenes.deep(depth);
            y.step(0, 6, 4);
            due.same("behind the last", y.store(0, 1), 'b');
        }
    }

    @Says(in = "Memory", words = "and the cells from 64 to 95 are the heap")
    static void heap(Check due) {
        Sealhouse x = new Sealhouse();
        due.same("stateOf 63", x.stateOf(63), '-');
        due.same("stateOf 64", x.stateOf(64), 'f');
        due.same("stateOf 95", x.stateOf(95), 'f');
        due.same("all of it", Scenes.right(Scenes.wide(), 5), "64..96 at 64 may 95 seal 0");
        due.same("no more", Scenes.with(y -> y.setQuota(0, 32), y -> y.get(5, 32), y -> y.setQuota(1, 32),
                y -> y.call(1))
                .get(0, 1), 'm');
    }

    // ---- Compartments ----

    @Says(in = "Compartments", words = "At first, the compartment 0 runs, at the depth 0.")
    static void atFirst(Check due) {
        Sealhouse x = new Sealhouse();
        due.same("depth", x.depth(), 0);
        due.same("runs", x.runs(0), 0);
        due.throwsA(Scenes.INDEX, "runs(1)", () -> x.runs(1));
        due.same("own seal", Scenes.right(Scenes.with(y -> y.seal(0, 7)), 0), "0..8 at 0 may 95 seal 1");
    }

    @Says(in = "Compartments", words = "Eight registers, 0 to 7, belong to the call that runs.")
    static void registersOfACall(Check due) {
        Sealhouse x = new Sealhouse();
        for (int r = 0; r < 8; r++) {
            due.fine("put", x.put(r, 10 + r));
        }
        x.call(2);
        for (int r = 0; r < 8; r++) {
            due.fine("put", x.put(r, 20 + r));
        }
        for (int r = 0; r < 8; r++) {
            due.same("in the call", x.value(r), 20 + r);
        }
        x.leave();
        for (int r = 1; r < 8; r++) {
            due.same("in the caller", x.value(r), 10 + r);
        }
        due.throwsA(Scenes.INDEX, "value(8)", () -> x.value(8));
        due.throwsA(Scenes.INDEX, "value(-1)", () -> x.value(-1));
    }

    private static void atBeginnings(Check due, int register) {
        due.same("at first", Scenes.right(new Sealhouse(), register), Scenes.atFirst(register, 0, 0));
        for (int c = 0; c < 4; c++) {
            Sealhouse x = new Sealhouse();
            for (int d = 1; d < 8; d++) {
                x.put(6, 0);
                x.put(7, 0);
                x.call((c + d) % 4);
                due.same("at the depth " + d, Scenes.right(x, register), Scenes.atFirst(register, (c + d) % 4, d));
            }
        }
    }

    @Says(in = "Compartments",
            words = "When a call begins, the register 7 has a right to the globals of its compartment, with all "
                    + "permissions but 32")
    static void rightToGlobals(Check due) {
        due.same("in words", Scenes.atFirst(7, 3, 5), "24..32 at 24 may 95 seal 0");
        atBeginnings(due, 7);
    }

    @Says(in = "Compartments", words = "and the register 6 one to its part of the stack, with all but 16")
    static void rightToTheStack(Check due) {
        due.same("in words", Scenes.atFirst(6, 3, 7), "60..64 at 60 may 111 seal 0");
        atBeginnings(due, 6);
    }

    @Says(in = "Compartments", words = "the addresses are the bases")
    static void addressesAreBases(Check due) {
        for (int d = 0; d < 8; d++) {
            Sealhouse x = Scenes.deep(d);
            due.same("register 6", x.value(6), 32 + 4 * d);
            due.same("register 6", x.ask(6, 'b'), 32 + 4 * d);
            due.same("register 7", x.value(7), 0);
            due.same("register 7", x.ask(7, 'b'), 0);
        }
    }

    @Says(in = "Compartments", words = "the registers 0 and 1 have what was handed to them, and all others 0")
    static void registersAtABeginning(Check due) {
        Sealhouse x = new Sealhouse();
        for (int r = 0; r < 6; r++) {
            due.same("at first", Scenes.right(x, r), "number 0");
            x.put(r, 10 + r);
        }
        x.move(1, 7);
        x.call(1);
        due.same("register 0", Scenes.right(x, 0), "number 10");
        due.same("register 1", Scenes.right(x, 1), "0..8 at 0 may 95 seal 0");
        for (int r = 2; r < 6; r++) {
            due.same("register " + r, Scenes.right(x, r), "number 0");
            x.put(r, 20 + r);
        }
        x.leave();
        x.call(1);
        for (int r = 2; r < 6; r++) {
            due.same("register " + r + " of a later call", Scenes.right(x, r), "number 0");
        }
    }
}
