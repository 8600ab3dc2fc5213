import java.io.IOException;

/** The terms of the heap and of reaches. */
public final class HeapWordsTest {
    private HeapWordsTest() {
    }

    public static void main(String[] args) throws IOException {
        Sentences.run(HeapWordsTest.class);
    }

    private static String heap(Sealhouse x) {
        return Scenes.states(x).substring(64);
    }

    // ---- Heap ----

    @Says(in = "Heap", words = "To get cells asks for 1 to 32")
    static void oneToThirtyTwo(Check due) {
        Sealhouse x = Scenes.with(y -> y.setQuota(0, 32));
        due.fine("get 1", x.get(0, 1));
        due.same("1 cell", Scenes.right(x, 0), "64..65 at 64 may 95 seal 0");
        Sealhouse z = Scenes.with(y -> y.setQuota(0, 32));
        due.fine("get 32", z.get(0, 32));
        due.same("32 cells", Scenes.right(z, 0), "64..96 at 64 may 95 seal 0");
        due.throwsA(Scenes.ARGUMENT, "get 0", () -> x.get(0, 0));
        due.throwsA(Scenes.ARGUMENT, "get 33", () -> x.get(0, 33));
    }

    private static void makesUp(Check due, int asked, int got) {
        Sealhouse x = Scenes.with(y -> y.setQuota(0, 32));
        due.fine("get " + asked, x.get(3, asked));
        due.same("get " + asked, Scenes.right(x, 3), "64.." + (64 + got) + " at 64 may 95 seal 0");
        due.same("counted", x.counted(0), got);
        due.same("states", heap(x), "g".repeat(got) + "f".repeat(32 - got));
    }

    @Says(in = "Heap", words = "made up to a number that can be divided by 2 if it is greater than 8")
    static void madeUpByTwo(Check due) {
        for (int asked = 1; asked <= 8; asked++) {
            makesUp(due, asked, asked);
        }
        for (int asked = 9; asked <= 16; asked++) {
            makesUp(due, asked, asked + asked % 2);
        }
    }

    @Says(in = "Heap", words = "and by 4 if it is greater than 16")
    static void madeUpByFour(Check due) {
        makesUp(due, 16, 16);
        for (int asked = 17; asked <= 32; asked++) {
            makesUp(due, asked, asked <= 20 ? 20 : asked <= 24 ? 24 : asked <= 28 ? 28 : 32);
        }
    }

    @Says(in = "Heap",
            words = "it takes the lowest free ones, so many behind one another, whose bounds need no rounding")
    static void lowestFreeOnes(Check due) {
        Sealhouse x = Scenes.with(y -> y.setQuota(0, 32), y -> y.get(0, 1), y -> y.get(1, 9), y -> y.get(2, 1),
                y -> y.get(3, 17));
        due.same("10 at a number that can be divided by 2", Scenes.right(x, 1), "66..76 at 66 may 95 seal 0");
        due.same("the gap ahead of it", Scenes.right(x, 2), "65..66 at 65 may 95 seal 0");
        due.same("20 at a number that can be divided by 4", Scenes.right(x, 3), "76..96 at 76 may 95 seal 0");
        x.free(1);
        x.sweep();
        due.fine("get", x.get(1, 3));
        due.same("the lowest ones again", Scenes.right(x, 1), "66..69 at 66 may 95 seal 0");
        due.fine("get", x.get(1, 7));
        due.same("behind them", Scenes.right(x, 1), "69..76 at 69 may 95 seal 0");

        Sealhouse gap = Scenes.with(y -> y.setQuota(0, 32), y -> y.get(0, 2), y -> y.get(1, 1), y -> y.free(0),
                y -> y.sweep());
        due.fine("get", gap.get(2, 3));
        due.same("a gap that is too short", Scenes.right(gap, 2), "67..70 at 67 may 95 seal 0");
        due.fine("get", gap.get(2, 2));
        due.same("a gap that is just enough", Scenes.right(gap, 2), "64..66 at 64 may 95 seal 0");

        Sealhouse eight = Scenes.with(y -> y.get(0, 1), y -> y.get(1, 8));
        due.same("8 need no rounding anywhere", Scenes.right(eight, 1), "65..73 at 65 may 95 seal 0");
        Sealhouse sixteen = Scenes.with(y -> y.setQuota(0, 32), y -> y.get(0, 1), y -> y.get(1, 16));
        due.same("16 at a number that can be divided by 2", Scenes.right(sixteen, 1), "66..82 at 66 may 95 seal 0");
        Sealhouse twenty = Scenes.with(y -> y.setQuota(0, 32), y -> y.get(0, 1), y -> y.get(1, 20));
        due.same("20 at a number that can be divided by 4", Scenes.right(twenty, 1), "68..88 at 68 may 95 seal 0");
        Sealhouse last = Scenes.with(y -> y.setQuota(0, 32), y -> y.get(0, 28), y -> y.get(1, 3), y -> y.get(2, 1));
        due.same("the last cell", Scenes.right(last, 2), "95..96 at 95 may 95 seal 0");
    }

    @Says(in = "Heap", words = "they become the number 0")
    static void gotCellsAreZero(Check due) {
        Sealhouse x = Scenes.with(y -> y.get(0, 4), y -> y.put(1, 5), y -> y.store(0, 1), y -> y.step(2, 0, 3),
                y -> y.store(2, 7), y -> y.step(2, 2, -1), y -> y.store(2, 1), y -> y.free(0), y -> y.sweep());
        due.same("a free cell keeps what it holds", x.cell(64), 5);
        due.yes("a free cell keeps what it holds", x.hasRight(67));
        due.fine("get", x.get(0, 2));
        due.same("the first one", x.cell(64), 0);
        due.same("one that was not got", x.cell(66), 5);
        due.yes("one that was not got", x.hasRight(67));
        due.fine("get", x.get(0, 2));
        due.same("the last one", x.cell(67), 0);
        due.no("the last one", x.hasRight(67));
        due.same("checksum", x.checksum(), 0L);
        Sealhouse ten = Scenes.with(y -> y.get(0, 10), y -> y.step(1, 0, 9), y -> y.store(1, 7), y -> y.free(0),
                y -> y.sweep(), y -> y.get(0, 9));
        due.same("the one that was made up", ten.cell(73) + " " + ten.hasRight(73), "0 false");
    }

    @Says(in = "Heap",
            words = "and the register gets a right to them with all permissions but 32, its address the base.")
    static void rightToGotCells(Check due) {
        for (int r = 0; r < 8; r++) {
            Sealhouse x = Scenes.with(y -> y.get(0, 3), y -> y.call(2));
            due.fine("get", x.get(r, 5));
            due.same("register " + r, Scenes.right(x, r), "67..72 at 67 may 95 seal 0");
        }
    }

    @Says(in = "Heap", words = "A compartment has a quota, 16 at first")
    static void quotaAtFirst(Check due) {
        for (int c = 0; c < 4; c++) {
            int called = c;
            due.fine("16", Scenes.with(y -> y.call(called)).get(0, 16));
            due.same("17", Scenes.with(y -> y.call(called)).get(0, 17), 'q');
            due.same("setQuota", new Sealhouse().setQuota(c, 0), 16);
        }
    }

    @Says(in = "Heap", words = "what its calls got and what was not yet swept counts for it.")
    static void whatCounts(Check due) {
        Sealhouse x = Scenes.with(y -> y.get(2, 3), y -> y.call(1), y -> y.get(0, 2), y -> y.call(1), y -> y.get(1, 5),
                y -> y.call(0), y -> y.get(0, 9));
        due.same("two calls of it", x.counted(0), 13);
        due.same("two calls of it", x.counted(1), 7);
        due.same("none", x.counted(2), 0);
        x.leave();
        x.free(1);
        due.same("what rests", x.counted(1), 7);
        x.leave();
        x.leave();
        due.same("when its calls have returned", x.counted(1), 7);
        x.sweep();
        due.same("what was swept does not", x.counted(1), 2);
        due.same("what was not freed", x.counted(0), 13);
        due.same("a call that traps leaves what it got", Scenes.with(y -> y.call(3), y -> y.get(0, 4),
                y -> y.load(1, 1)).counted(3), 4);
        due.same("what it did not get does not count", Scenes.with(y -> y.get(0, 17)).counted(0), 0);
    }

    @Says(in = "Heap",
            words = "To free takes a right whose bounds are just those of cells that were got and not freed yet, with "
                    + "the permission 2")
    static void whatCanBeFreed(Check due) {
        Scenes.Maker two = () -> Scenes.with(x -> x.get(0, 4), x -> x.get(1, 4), x -> x.store(7, 0));
        due.fine("just those", two.make().free(0));
        due.fine("just those", two.make().free(1));
        due.fine("with 2 alone", Scenes.with(x -> x.get(0, 4), x -> x.restrict(0, 0, 2)).free(0));
        due.same("without 2", Scenes.with(x -> x.get(0, 4), x -> x.restrict(0, 0, 125)).free(0), 'p');
        int[][] others = {{64, 3}, {65, 3}, {65, 2}, {67, 1}, {64, 1}};
        for (int[] o : others) {
            due.same("narrowed to " + o[0] + " " + o[1],
                    Scenes.with(x -> x.get(0, 4), x -> x.narrow(0, 0, o[0], o[1])).free(0), 'f');
        }
        due.fine("narrowed to the same", Scenes.with(x -> x.get(0, 4), x -> x.narrow(0, 0, 64, 4)).free(0));
        due.fine("its address at the top", Scenes.with(x -> x.get(0, 4), x -> x.step(0, 0, 4)).free(0));
        due.fine("its address ahead of the base", Scenes.with(x -> x.get(0, 4), x -> x.step(0, 0, -8)).free(0));
        due.same("twice", Scenes.with(x -> x.get(0, 4), x -> x.free(0)).free(0), 'f');
        due.fine("by another compartment", Scenes.with(x -> x.get(0, 4), x -> x.call(3)).free(0));
        due.fine("all of the heap", Scenes.wide().free(5));
        // bounds of cells that were got once, and swept, and got with others then
        Scenes.Use[] twoBlocks = {x -> x.get(0, 2), x -> x.get(1, 2), x -> x.free(0), x -> x.free(1), x -> x.sweep(),
            x -> x.get(0, 4)};
        due.same("the first of two blocks of old", Scenes.with(x -> run(x, twoBlocks),
                x -> x.narrow(1, 0, 64, 2)).free(1), 'f');
        due.same("the second of two blocks of old", Scenes.with(x -> run(x, twoBlocks),
                x -> x.narrow(1, 0, 66, 2)).free(1), 'f');
        Sealhouse smaller = Scenes.with(x -> x.get(0, 4), x -> x.free(0), x -> x.sweep(), x -> x.get(0, 2));
        due.fine("a smaller block than of old", smaller.free(0));
        due.same("states", heap(smaller), "rr" + "f".repeat(30));
    }

    private static Object run(Sealhouse x, Scenes.Use... uses) {
        for (Scenes.Use u : uses) {
            u.on(x);
        }
        return x;
    }

    @Says(in = "Heap", words = "these cells rest then.")
    static void freedCellsRest(Check due) {
        Sealhouse x = Scenes.with(y -> y.get(0, 2), y -> y.get(1, 3), y -> y.get(2, 1), y -> y.free(1));
        due.same("states", heap(x), "ggrrrg" + "f".repeat(26));
        due.fine("get", x.get(3, 2));
        due.same("they are not got", Scenes.right(x, 3), "70..72 at 70 may 95 seal 0");
        x.put(4, 6);
        due.fine("a right in a register still stores", x.store(1, 4));
        due.fine("and loads", x.load(5, 1));
        due.same("what was stored", x.value(5), 6);
        Sealhouse all = Scenes.with(y -> y.setQuota(0, 32), y -> y.get(5, 32), y -> y.free(5));
        due.same("states", heap(all), "r".repeat(32));
    }

    @Says(in = "Heap", words = "A right whose base is a cell that rests is loaded as a number, its address.")
    static void loadedAsANumber(Check due) {
        for (int base = 64; base < 70; base++) {
            int told = base;
            // 66 and 67 rest
            Sealhouse x = Scenes.with(y -> y.get(0, 2), y -> y.get(1, 2), y -> y.get(2, 2),
                    y -> y.narrow(3, (told - 64) / 2, told, 1), y -> y.step(3, 3, 9), y -> y.store(7, 3),
                    y -> y.free(1),
                    y -> y.load(4, 7));
            String right = base + ".." + (base + 1) + " at " + (base + 9) + " may 95 seal 0";
            boolean rests = base == 66 || base == 67;
            due.same("base " + base, Scenes.right(x, 4), rests ? "number " + (base + 9) : right);
            due.yes("the cell has it still", x.hasRight(0));
            due.same("a register has it still", Scenes.right(x, 3), right);
        }
        Sealhouse sealed = Scenes.with(y -> y.get(0, 1), y -> y.seal(1, 0), y -> y.store(7, 1), y -> y.free(0),
                y -> y.load(4, 7));
        due.same("a sealed one", Scenes.right(sealed, 4), "number 64");
        Sealhouse inside = Scenes.with(y -> y.get(0, 1), y -> y.store(0, 7), y -> y.free(0), y -> y.load(4, 0));
        due.same("another one, in a cell that rests", Scenes.right(inside, 4), "0..8 at 0 may 95 seal 0");
    }

    @Says(in = "Heap",
            words = "A sweep makes all rights with such bases in registers, in those of calls that wait, and in cells "
                    + "numbers, their addresses")
    static void sweepMakesNumbers(Check due) {
        // 64 and 65, 66 to 69 and 70 and 71 are got, and rights to each of them are kept in many places
        Sealhouse x = Scenes.with(y -> y.get(1, 2), y -> y.get(2, 4), y -> y.get(3, 2), y -> y.narrow(4, 1, 65, 1),
                y -> y.store(2, 1), y -> y.store(3, 2), y -> y.step(5, 3, 1), y -> y.store(5, 4), y -> y.step(5, 2, 1),
                y -> y.store(5, 2), y -> y.narrow(4, 2, 69, 1), y -> y.step(4, 4, 9), y -> y.seal(5, 4),
                y -> y.store(7, 5), y -> y.store(6, 4), y -> y.step(0, 2, -8), y -> y.call(1), y -> y.move(2, 0),
                y -> y.call(2));
        due.same("nothing rests", x.sweep(), 0);
        x.free(0);
        // four and two in calls that wait, one in the call that runs, and those in the cells 0, 32, 67 and 70
        due.same("sweep", x.sweep(), 11);
        due.same("in the call that runs", Scenes.right(x, 0), "number 58");
        due.same("one just ahead of what rested", Scenes.right(x, 1), "64..66 at 64 may 95 seal 0");
        due.same("a sealed one in a cell", x.cell(0) + " " + x.hasRight(0), "78 false");
        due.same("in the stack", x.cell(32) + " " + x.hasRight(32), "78 false");
        due.same("in a cell of the heap", x.cell(70) + " " + x.hasRight(70), "66 false");
        due.same("in a cell that rested", x.cell(67) + " " + x.hasRight(67), "66 false");
        due.same("another one in such a cell", x.cell(66) + " " + x.hasRight(66), "64 true");
        due.same("the base just ahead, in a cell", x.cell(71) + " " + x.hasRight(71), "65 true");
        x.leave();
        due.same("in one that waits", Scenes.right(x, 2), "number 58");
        x.leave();
        due.same("in the first one", Scenes.right(x, 2), "number 66");
        due.same("the base just behind", Scenes.right(x, 3), "70..72 at 70 may 95 seal 0");
        due.same("in the first one", Scenes.right(x, 4), "number 78");
        due.same("a sealed one", Scenes.right(x, 5), "number 78");
        due.same("swept twice", x.sweep(), 0);
        sweepLeavesOthers(due);
    }

    /** What rested once, and what was once a part of the stack, does not matter to a sweep. */
    private static void sweepLeavesOthers(Check due) {
        Sealhouse again = Scenes.with(y -> y.get(0, 4), y -> y.free(0), y -> y.sweep(), y -> y.get(2, 4),
                y -> y.store(7, 2));
        due.same("a new right to the same cells", again.sweep(), 0);
        due.same("a new right to the same cells", Scenes.right(again, 2), "64..68 at 64 may 95 seal 0");
        Sealhouse part = Scenes.with(y -> y.call(1), y -> y.leave(), y -> y.call(1), y -> y.store(6, 6));
        due.same("a right to a part of the stack", part.sweep(), 0);
        due.same("a right to a part of the stack", Scenes.right(part, 6), Scenes.atFirst(6, 1, 1));
        // the call that ends by a trap had such a right in each register
        Sealhouse ended = Scenes.with(y -> y.get(0, 1), y -> y.call(1));
        for (int r = 1; r < 8; r++) {
            ended.move(r, 0);
        }
        due.fine("free", ended.free(0));
        due.same("free again", ended.free(7), 'f');
        due.same("in a call that has ended", ended.sweep(), 0);
    }

    @Says(in = "Heap", words = "and all cells that rest free ones")
    static void sweepFrees(Check due) {
        Sealhouse x = Scenes.with(y -> y.get(0, 2), y -> y.get(1, 3), y -> y.get(2, 2), y -> y.free(0), y -> y.free(2));
        due.same("ahead", heap(x), "rrgggrr" + "f".repeat(25));
        x.sweep();
        due.same("behind", heap(x), "ffgggff" + "f".repeat(25));
        Sealhouse all = Scenes.wide();
        all.free(5);
        all.sweep();
        due.same("all", heap(all), "f".repeat(32));
        due.fine("get", all.get(0, 32));
    }

    @Says(in = "Heap", words = "whose quota is given back.")
    static void quotaGivenBack(Check due) {
        Sealhouse x = Scenes.with(y -> y.get(0, 16), y -> y.free(0));
        due.same("ahead", x.counted(0), 16);
        x.sweep();
        due.same("behind", x.counted(0), 0);
        due.fine("get", x.get(0, 16));
        Sealhouse both = Scenes.with(y -> y.get(0, 2), y -> y.get(2, 4), y -> y.call(1), y -> y.get(1, 3),
                y -> y.free(0),
                y -> y.free(1), y -> y.sweep());
        due.same("to the one that got them", both.counted(0), 4);
        due.same("to the one that got them", both.counted(1), 0);
        Sealhouse again = Scenes.with(y -> y.get(0, 2), y -> y.free(0), y -> y.sweep(), y -> y.sweep(), y -> y.call(1),
                y -> y.get(0, 2));
        due.same("once", again.counted(0), 0);
        due.same("the next one's", again.counted(1), 2);
    }

    // ---- Reach ----

    @Says(in = "Reach", words = "A compartment reaches its globals")
    static void reachesGlobals(Check due) {
        Sealhouse x = new Sealhouse();
        for (int c = 1; c < 4; c++) {
            due.same("at first", Scenes.reached(x, c), 8 * c + "-" + (8 * c + 7) + " ");
        }
        due.same("without a right to them", Scenes.reached(Scenes.with(y -> y.put(7, 0)), 0), "0-7 32-35 ");
    }

    @Says(in = "Reach", words = "the parts of the stack of its calls, the one that runs and those that wait")
    static void reachesItsParts(Check due) {
        due.same("at first", Scenes.reached(new Sealhouse(), 0), "0-7 32-35 ");
        Sealhouse x = Scenes.with(y -> y.put(6, 0), y -> y.call(1), y -> y.put(6, 0), y -> y.call(2), y -> y.call(1),
                y -> y.put(6, 0));
        due.same("one that waits", Scenes.reached(x, 0), "0-7 32-35 ");
        due.same("one that waits and one that runs", Scenes.reached(x, 1), "8-15 36-39 44-47 ");
        due.same("another one that waits", Scenes.reached(x, 2), "16-23 40-43 ");
        due.same("no call", Scenes.reached(x, 3), "24-31 ");
        x.leave();
        due.same("one that has returned", Scenes.reached(x, 1), "8-15 36-39 ");
        Sealhouse last = Scenes.deep(6);
        last.call(3);
        due.same("the last part", Scenes.reached(last, 3), "24-31 60-63 ");
    }

    @Says(in = "Reach",
            words = "and the cells within the bounds of each right without a seal, with the permission 1 or 2, that "
                    + "it has in a register of one of its calls")
    static void reachesByRegisters(Check due) {
        for (int p = 0; p < 128; p++) {
            int told = p;
            Sealhouse x = Scenes.with(y -> y.get(2, 3), y -> y.restrict(2, 2, told), y -> y.narrow(3, 2, 65, 1),
                    y -> y.put(2, 0));
            due.same("permissions " + p, Scenes.reached(x, 0), p % 4 == 0 ? "0-7 32-35 " : "0-7 32-35 65-65 ");
        }
        due.same("a sealed one", Scenes.reached(Scenes.with(y -> y.get(2, 3), y -> y.seal(2, 2)), 0), "0-7 32-35 ");
        due.same("its address does not matter", Scenes.reached(Scenes.with(y -> y.get(2, 3), y -> y.step(2, 2, 11)), 0),
                "0-7 32-35 64-66 ");
        for (int r = 0; r < 8; r++) {
            int register = r;
            Sealhouse x = Scenes.with(y -> y.call(3), y -> y.get(register, 3));
            due.same("the register " + r, Scenes.reached(x, 3), "24-31 36-39 64-66 ");
            x.move(7, r);
            x.put(0, 0);
            x.put(1, 0);
            x.call(2);
            due.same("the register " + r + " of one that waits", Scenes.reached(x, 3), "24-31 36-39 64-66 ");
            due.same("not another's", Scenes.reached(x, 2), "16-23 40-43 ");
        }
        Sealhouse gone = Scenes.with(y -> y.call(3), y -> y.get(2, 3), y -> y.leave(), y -> y.call(3));
        due.same("not of one that has returned", Scenes.reached(gone, 3), "24-31 36-39 ");
        Sealhouse stack = Scenes.with(y -> y.move(0, 6), y -> y.call(1));
        due.same("another's part of the stack", Scenes.reached(stack, 1), "8-15 32-39 ");
        Sealhouse others = Scenes.with(y -> y.narrow(0, 7, 2, 2), y -> y.call(1));
        due.same("others' globals", Scenes.reached(others, 1), "2-3 8-15 36-39 ");
        others.put(0, 0);
        due.same("no more", Scenes.reached(others, 1), "8-15 36-39 ");
    }

    @Says(in = "Reach", words = "or finds: in its globals")
    static void findsInGlobals(Check due) {
        for (int i = 0; i < 32; i++) {
            int of = i / 8;
            int steps = i % 8;
            Sealhouse x = Scenes.with(y -> y.call(of), y -> y.get(2, 3), y -> y.step(7, 7, steps), y -> y.store(7, 2),
                    y -> y.leave());
            for (int c = 0; c < 4; c++) {
                String found = Scenes.reached(new Sealhouse(), c) + (c == of ? "64-66 " : "");
                due.same(c + " by the cell " + i, Scenes.reached(x, c), found);
            }
        }
        due.same("a sealed one", Scenes.reached(Scenes.with(y -> y.get(2, 3), y -> y.seal(2, 2), y -> y.store(7, 2)),
                0),
                "0-7 32-35 ");
        due.same("without 1 and 2", Scenes.reached(Scenes.with(y -> y.get(2, 3), y -> y.restrict(2, 2, 124),
                y -> y.store(7, 2)), 0), "0-7 32-35 ");
        due.same("with 2 alone", Scenes.reached(Scenes.with(y -> y.get(2, 3), y -> y.restrict(2, 2, 18),
                y -> y.store(7, 2), y -> y.put(2, 0)), 0), "0-7 32-35 64-66 ");
    }

    @Says(in = "Reach", words = "in a part of the stack of its calls")
    static void findsInParts(Check due) {
        for (int d = 0; d < 8; d++) {
            for (int i = 0; i < 4; i++) {
                int depth = d;
                int steps = i;
                Scenes.Maker deep = () -> {
                    Sealhouse x = new Sealhouse();
                    for (int k = 1; k <= depth; k++) {
                        x.call(k * 3 % 4);
                    }
                    return x;
                };
                Sealhouse x = deep.make();
                run(x, y -> y.get(2, 3), y -> y.step(6, 6, steps), y -> y.store(6, 2), y -> y.put(2, 0),
                        y -> y.put(6, 0), y -> y.put(7, 0));
                for (int c = 0; c < 4; c++) {
                    String found = Scenes.reached(deep.make(), c) + (c == d * 3 % 4 ? "64-66 " : "");
                    due.same(c + " by the cell " + (32 + 4 * d + i), Scenes.reached(x, c), found.replace("-63 64-",
                            "-"));
                }
            }
        }
        Sealhouse x = Scenes.with(y -> y.call(2), y -> y.get(2, 3), y -> y.store(6, 2), y -> y.put(2, 0),
                y -> y.call(1));
        due.same("of a call that waits", Scenes.reached(x, 2), "16-23 36-39 64-66 ");
        due.same("not of another's call", Scenes.reached(x, 1), "8-15 40-43 ");
        x.leave();
        x.leave();
        due.same("not of one that has returned", Scenes.reached(x, 2), "16-23 ");
    }

    @Says(in = "Reach",
            words = "or within the bounds of a right without a seal, with the permissions 1 and 4, that it has or "
                    + "finds")
    static void findsByRights(Check due) {
        for (int p = 0; p < 128; p++) {
            int told = p;
            // 64 and 65 have a right to 66, which is also the only one in the register 0 of the call
            Sealhouse x = Scenes.with(y -> y.get(2, 2), y -> y.get(3, 1), y -> y.store(2, 3), y -> y.restrict(0, 2,
                    told),
                    y -> y.call(1));
            String due1 = (p & 5) == 5 ? "8-15 36-39 64-66 " : p % 4 != 0 ? "8-15 36-39 64-65 " : "8-15 36-39 ";
            due.same("permissions " + p, Scenes.reached(x, 1), due1);
        }
        Scenes.Use[] chain = {y -> y.get(2, 2), y -> y.get(3, 2), y -> y.get(4, 2), y -> y.get(5, 2),
            y -> y.step(2, 2, 1), y -> y.store(2, 3), y -> y.store(3, 4), y -> y.store(4, 2), y -> y.store(5, 2)};
        Sealhouse ring = Scenes.with(y -> run(y, chain), y -> y.move(0, 3), y -> y.call(1));
        due.same("a ring", Scenes.reached(ring, 1), "8-15 36-39 64-69 ");
        ring.store(7, 0);
        ring.leave();
        due.same("from globals", Scenes.reached(ring, 1), "8-15 64-69 ");
        Sealhouse sealedHand = Scenes.with(y -> run(y, chain), y -> y.seal(0, 2), y -> y.call(1));
        due.same("a sealed one", Scenes.reached(sealedHand, 1), "8-15 36-39 ");
        Sealhouse sealedIn = Scenes.with(y -> run(y, chain), y -> y.seal(4, 4), y -> y.store(3, 4), y -> y.move(0, 2),
                y -> y.call(1));
        due.same("a sealed one in between", Scenes.reached(sealedIn, 1), "8-15 36-39 64-67 ");
        Sealhouse blind = Scenes.with(y -> run(y, chain), y -> y.restrict(3, 3, 90), y -> y.store(2, 3), y -> y.move(0,
                2),
                y -> y.call(1));
        due.same("one in between without 1 and 4", Scenes.reached(blind, 1), "8-15 36-39 64-67 ");
        Sealhouse others = Scenes.with(y -> y.get(2, 1), y -> y.step(3, 7, 7), y -> y.store(3, 2), y -> y.move(0, 7),
                y -> y.call(3), y -> y.store(7, 0), y -> y.leave());
        due.same("in others' globals", Scenes.reached(others, 3), "0-7 24-31 64-64 ");
        Sealhouse ends = Scenes.with(y -> y.get(2, 3), y -> y.get(3, 1), y -> y.step(2, 2, 2), y -> y.store(2, 3),
                y -> y.narrow(0, 2, 64, 2), y -> y.narrow(1, 2, 66, 1), y -> y.call(1));
        due.same("in the last cell of it", Scenes.reached(ends, 1), "8-15 36-39 64-67 ");
        ends.put(1, 0);
        due.same("not behind its top", Scenes.reached(ends, 1), "8-15 36-39 64-65 ");
        findsBehindManyRights(due);
    }

    /** Many rights to the same cells, and a way further on from the last of them. */
    private static void findsBehindManyRights(Check due) {
        Sealhouse heap = Scenes.with(y -> y.setQuota(0, 32), y -> y.get(0, 20), y -> y.get(1, 1), y -> y.get(3, 1),
                y -> y.store(1, 3), y -> y.put(3, 0));
        for (int i = 0; i < 20; i++) {
            heap.step(2, 0, i);
            heap.store(2, i == 19 ? 1 : 0);
        }
        heap.put(1, 0);
        heap.put(2, 0);
        due.same("20 cells with rights to all 20", Scenes.reached(heap, 0), "0-7 32-35 64-85 ");
        Sealhouse overlapping = Scenes.wide();
        for (int i = 0; i < 31; i++) {
            overlapping.narrow(1, 5, 64 + i, i < 24 ? 8 : 32 - i);
            overlapping.step(2, 5, i);
            overlapping.store(2, 1);
        }
        overlapping.put(2, 0);
        overlapping.step(1, 5, 31);
        overlapping.store(1, 7);
        overlapping.narrow(0, 5, 64, 1);
        overlapping.call(1);
        due.same("32 cells with rights to the next 8", Scenes.reached(overlapping, 1), "0-15 36-39 64-95 ");
        Sealhouse stack = Scenes.deep(7);
        stack.get(2, 1);
        stack.get(3, 1);
        stack.store(2, 3);
        stack.step(1, 6, 3);
        stack.store(1, 2);
        for (int r = 1; r < 4; r++) {
            stack.put(r, 0);
        }
        due.same("all parts of the stack, and the last cell", Scenes.reached(stack, 0), "0-7 32-65 ");
    }

    @Says(in = "Reach", words = "but a right in a cell whose base is a cell that rests is not found.")
    static void restingIsNotFound(Check due) {
        // 64, then 65 and 66, then 67 are got; 65 has a right to 67, and all three are in the globals of 0 and 1
        Scenes.Use[] kept = {y -> y.get(2, 1), y -> y.get(3, 2), y -> y.get(4, 1), y -> y.store(3, 4), y -> y.move(0,
                3),
            y -> y.call(1), y -> y.store(7, 0), y -> y.leave(), y -> y.store(7, 3), y -> y.narrow(5, 3, 66, 1),
            y -> y.store(6, 5), y -> y.put(0, 0), y -> y.put(5, 0)};
        Sealhouse x = Scenes.with(kept);
        due.same("ahead", Scenes.reached(x, 1), "8-15 65-67 ");
        x.put(2, 0);
        x.put(4, 0);
        due.same("ahead", Scenes.reached(x, 0), "0-7 32-35 65-67 ");
        due.fine("free", x.free(3));
        due.same("in globals", Scenes.reached(x, 1), "8-15 ");
        due.same("it has it in a register too", Scenes.reached(x, 0), "0-7 32-35 65-67 ");
        x.put(3, 0);
        due.same("in globals and its part of the stack", Scenes.reached(x, 0), "0-7 32-35 ");
        due.yes("the cell has it still", x.hasRight(0) && x.hasRight(8) && x.hasRight(32));
        Sealhouse first = Scenes.with(y -> run(y, kept), y -> y.free(2), y -> y.free(4));
        due.same("a base behind what rests", Scenes.reached(first, 1), "8-15 65-66 ");
        Sealhouse inside = Scenes.with(y -> y.get(2, 1), y -> y.get(3, 1), y -> y.store(2, 3), y -> y.free(2),
                y -> y.put(3, 0));
        due.same("another one, in a cell that rests", Scenes.reached(inside, 0), "0-7 32-35 64-65 ");
    }

    @Says(in = "Reach",
            words = "It has ever reached a cell if it does so at first or behind a call of this machine's methods.")
    static void everReached(Check due) {
        Sealhouse first = new Sealhouse();
        for (int c = 0; c < 4; c++) {
            for (int i = 0; i < 96; i++) {
                due.same(c + " at first " + i, first.hasReached(c, i), i / 8 == c || c == 0 && i / 4 == 8);
            }
        }
        Sealhouse x = Scenes.with(y -> y.get(0, 2), y -> y.call(3), y -> y.narrow(0, 0, 64, 1), y -> y.load(5, 5));
        due.yes("by what was handed on", x.hasReached(3, 65));
        due.yes("its part", x.hasReached(3, 39));
        due.no("it does so no more", x.reaches(3, 64));
        due.no("another one", x.hasReached(2, 64));
        due.no("what none has", x.hasReached(0, 66));
        x.free(2);
        x.put(2, 0);
        x.sweep();
        due.yes("behind a sweep", x.hasReached(3, 64));
        Sealhouse narrow = Scenes.with(y -> y.get(0, 4), y -> y.narrow(0, 0, 66, 1), y -> y.call(1));
        due.no("never more than it had", narrow.hasReached(1, 65));
        due.yes("what it had", narrow.hasReached(1, 66));
    }
}
