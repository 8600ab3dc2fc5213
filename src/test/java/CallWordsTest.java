import java.io.IOException;

/** The terms of calls: what is handed on and back, traps, exceptions and the clarifications. */
public final class CallWordsTest {
    private static final Scenes.Use SEAL = x -> x.seal(0, 7);

    private CallWordsTest() {
    }

    public static void main(String[] args) throws IOException {
        Sentences.run(CallWordsTest.class);
    }

    // ---- Calls ----

    @Says(in = "Calls", words = "A call goes to a compartment, at the next depth, 7 at most")
    static void callsGoDeeper(Check due) {
        Sealhouse x = new Sealhouse();
        for (int d = 1; d <= 7; d++) {
            due.fine("call", x.call(3 - d % 4));
            due.same("depth", x.depth(), d);
            due.same("runs", x.runs(d), 3 - d % 4);
        }
        due.same("one more", x.call(1), 'd');
        due.same("depth", x.depth(), 6);
    }

    @Says(in = "Calls", words = "the registers 0 and 1 are handed on.")
    static void twoAreHandedOn(Check due) {
        Sealhouse x = Scenes.with(y -> y.step(0, 6, 2), y -> y.seal(1, 7), y -> y.put(2, 9), y -> y.call(1));
        due.same("a right that may not be kept", Scenes.right(x, 0), "32..36 at 34 may 111 seal 0");
        due.same("a sealed right", Scenes.right(x, 1), "0..8 at 0 may 95 seal 1");
        due.same("no third one", Scenes.right(x, 2), "number 0");
        x.put(0, Integer.MIN_VALUE);
        x.put(1, Integer.MAX_VALUE);
        x.call(1);
        due.same("a number", x.value(0), Integer.MIN_VALUE);
        due.same("a number", x.value(1), Integer.MAX_VALUE);
        x.leave();
        due.same("the caller has them still", x.value(1), Integer.MAX_VALUE);
    }

    private static String handedBack(Scenes.Use... uses) {
        Sealhouse x = Scenes.with(y -> y.put(0, 5), y -> y.call(2));
        for (Scenes.Use u : uses) {
            u.on(x);
        }
        x.leave();
        return Scenes.right(x, 0);
    }

    @Says(in = "Calls",
            words = "When it returns, its register 0 is handed back, as the number 0 if it holds a right without the "
                    + "permission 16")
    static void oneIsHandedBack(Check due) {
        due.same("what was handed on", handedBack(), "number 5");
        due.same("a number", handedBack(y -> y.put(0, Integer.MIN_VALUE)), "number -2147483648");
        due.same("a right", handedBack(y -> y.step(0, 7, -8)), "16..24 at 8 may 95 seal 0");
        due.same("a sealed right", handedBack(y -> y.seal(0, 7)), "16..24 at 16 may 95 seal 3");
        due.same("with 16 alone", handedBack(y -> y.restrict(0, 7, 16)), "16..24 at 16 may 16 seal 0");
        due.same("with all but 16", handedBack(y -> y.restrict(0, 7, 111), y -> y.step(0, 0, 3)), "number 0");
        due.same("a sealed one without 16", handedBack(y -> y.restrict(0, 7, 111), y -> y.seal(0, 0)), "number 0");
        due.same("its part of the stack", handedBack(y -> y.move(0, 6)), "number 0");
        due.same("register 1 is not", handedBack(y -> y.put(1, 7)), "number 5");
    }

    @Says(in = "Calls", words = "the caller has all its other registers as they were")
    static void othersAsTheyWere(Check due) {
        Scenes.Use[] fill = {y -> y.step(1, 6, 3), y -> y.put(2, -2), y -> y.get(3, 2), y -> y.seal(4, 7),
            y -> y.narrow(5, 7, 2, 3), y -> y.put(6, 66), y -> y.restrict(7, 7, 5), y -> y.put(0, 1)};
        String before = Scenes.registers(Scenes.with(fill));
        Sealhouse x = Scenes.with(fill);
        x.call(1);
        for (int r = 1; r < 8; r++) {
            x.put(r, 100 + r);
        }
        x.call(2);
        for (int r = 1; r < 8; r++) {
            x.put(r, 200 + r);
        }
        x.leave();
        for (int r = 1; r < 8; r++) {
            due.same("in between", x.value(r), 100 + r);
        }
        x.leave();
        due.same("the caller's", Scenes.registers(x), before);
    }

    @Says(in = "Calls", words = "and the cells of the returning call's part of the stack become the number 0")
    static void partBecomesZero(Check due) {
        for (int d = 1; d <= 7; d++) {
            Sealhouse x = Scenes.deep(d - 1);
            // the caller's last cell, and the first one of the heap, are neighbours
            x.put(2, 8);
            x.step(3, 6, 3);
            x.store(3, 2);
            x.get(0, 1);
            x.store(0, 2);
            x.call(1);
            x.put(2, 9);
            for (int i = 0; i < 4; i++) {
                x.step(3, 6, i);
                x.store(3, i == 2 ? 6 : 2);
            }
            due.same("the last cell", x.cell(35 + 4 * d), 9);
            due.yes("a right", x.hasRight(34 + 4 * d));
            x.leave();
            for (int i = 32 + 4 * d; i < 36 + 4 * d; i++) {
                due.same("cell " + i, x.cell(i), 0);
                due.no("hasRight " + i, x.hasRight(i));
            }
            due.same("the cell ahead", x.cell(31 + 4 * d), 8);
            due.same("the heap", x.cell(64), 8);
        }
    }

    @Says(in = "Calls",
            words = "rights in cells and registers whose base is in this part become numbers, their addresses.")
    static void rightsToThePart(Check due) {
        for (int d = 1; d <= 7; d++) {
            int part = 32 + 4 * d;
            for (int i = 0; i < 4; i++) {
                Sealhouse x = Scenes.deep(d - 1);
                x.move(0, 6);
                x.step(1, 6, 1);
                x.narrow(2, 6, part - 1, 1);
                x.store(1, 2);
                x.step(1, 6, 2);
                x.call(1);
                x.narrow(2, 6, part + i, 1);
                x.step(2, 2, 9);
                x.store(0, 2);
                x.seal(2, 2);
                x.store(1, 2);
                due.yes("a right in the caller's part", x.hasRight(part - 4));
                x.leave();
                due.no("base " + i + " of it", x.hasRight(part - 4));
                due.same("its address", x.cell(part - 4), part + i + 9);
                due.no("a sealed one", x.hasRight(part - 2));
                due.same("its address", x.cell(part - 2), part + i + 9);
                due.yes("one whose base is just ahead of it", x.hasRight(part - 3));
                due.same("register 2", Scenes.right(x, 2), (part - 1) + ".." + part + " at " + (part - 1)
                        + " may 111 seal 0");
            }
        }
        Sealhouse swept = Scenes.with(y -> y.get(2, 1), y -> y.free(2), y -> y.sweep(), y -> y.get(2, 1),
                y -> y.call(3),
                y -> y.leave());
        due.same("cells that rested once", Scenes.right(swept, 2), "64..65 at 64 may 95 seal 0");
        Sealhouse x = Scenes.deep(6);
        x.get(2, 1);
        x.store(7, 2);
        x.call(3);
        x.leave();
        due.same("the heap begins behind the last part", Scenes.right(x, 2), "64..65 at 64 may 95 seal 0");
        due.yes("in a cell too", x.hasRight(0));
    }

    @Says(in = "Calls",
            words = "By a call through a sealed right with the seal s, the compartment s less 1 gets this right "
                    + "without its seal in its register 0")
    static void calledThroughASeal(Check due) {
        for (int s = 1; s <= 4; s++) {
            int seal = s;
            Sealhouse x = Scenes.with(y -> y.call(seal - 1), y -> y.step(0, 7, 16), y -> y.restrict(0, 0, 20),
                    y -> y.seal(0, 0), y -> y.leave(), y -> y.move(5, 0), y -> y.put(0, 8));
            String right = 8 * (s - 1) + ".." + 8 * s + " at " + (8 * (s - 1) + 16) + " may 20 seal ";
            due.fine("callSealed", x.callSealed(5));
            due.same("runs", x.runs(1), s - 1);
            due.same("register 0", Scenes.right(x, 0), right + 0);
            due.same("register 7", Scenes.right(x, 7), Scenes.atFirst(7, s - 1, 1));
            due.same("register 5", Scenes.right(x, 5), "number 0");
            x.put(0, 77);
            x.leave();
            due.same("the caller's keeps its seal", Scenes.right(x, 5), right + s);
            due.same("handed back", Scenes.right(x, 0), "number 77");
        }
    }

    @Says(in = "Calls", words = "and its register 1 is handed on.")
    static void registerOneIsHandedOn(Check due) {
        Sealhouse x = Scenes.with(y -> y.seal(5, 7), y -> y.put(0, 3), y -> y.put(1, 4), y -> y.callSealed(5));
        due.same("a number", Scenes.right(x, 1), "number 4");
        Sealhouse z = Scenes.with(y -> y.seal(1, 7), y -> y.callSealed(1));
        due.same("the right itself, without its seal", Scenes.right(z, 0), "0..8 at 0 may 95 seal 0");
        due.same("the right itself, handed on", Scenes.right(z, 1), "0..8 at 0 may 95 seal 1");
        Sealhouse u = Scenes.with(y -> y.seal(0, 7), y -> y.step(1, 6, 5), y -> y.callSealed(0));
        due.same("through the register 0", Scenes.right(u, 0), "0..8 at 0 may 95 seal 0");
        due.same("a stack right", Scenes.right(u, 1), "32..36 at 37 may 111 seal 0");
    }

    // ---- Traps ----

    /** The call must trap for this cause, which alone is counted. */
    private static void traps(Check due, char cause, String name, Scenes.Maker maker, Scenes.Use call) {
        Sealhouse x = maker.make();
        String before = Scenes.traps(x);
        int count = x.traps(cause);
        due.same(name, call.on(x), cause);
        due.same("traps behind " + name, Scenes.traps(x), before.replace(cause + "" + count, cause + "" + (count + 1)));
    }

    @Says(in = "Traps",
            words = "An operation of the compartment that runs can trap, for the first one of these that applies")
    static void firstCauseThatApplies(Check due) {
        // each right lacks all that the later causes look at
        Scenes.Maker sealed = () -> Scenes.with(x -> x.restrict(0, 7, 0), x -> x.step(0, 0, 8), x -> x.seal(0, 0));
        Scenes.Maker bare = () -> Scenes.with(x -> x.restrict(0, 7, 0), x -> x.step(0, 0, 8));
        Scenes.Maker far = () -> Scenes.with(x -> x.step(0, 7, 8));
        traps(due, 't', "load", sealed, x -> x.load(1, 1));
        traps(due, 's', "load", sealed, x -> x.load(1, 0));
        traps(due, 'p', "load", bare, x -> x.load(1, 0));
        traps(due, 'b', "load", far, x -> x.load(1, 0));
        traps(due, 't', "store", sealed, x -> x.store(1, 6));
        traps(due, 's', "store", sealed, x -> x.store(0, 6));
        traps(due, 'p', "store", bare, x -> x.store(0, 6));
        traps(due, 'b', "store", far, x -> x.store(0, 6));
        traps(due, 'l', "store", far, x -> x.store(7, 6));
        Scenes.Maker noEight = () -> Scenes.with(x -> x.restrict(0, 7, 119), x -> x.step(0, 0, 8));
        traps(due, 'p', "store of a right", noEight, x -> x.store(0, 6));
        traps(due, 'b', "store of a number", noEight, x -> x.store(0, 1));
        traps(due, 't', "narrow", sealed, x -> x.narrow(1, 1, 40, 40));
        traps(due, 's', "narrow", sealed, x -> x.narrow(1, 0, 40, 40));
        traps(due, 'b', "narrow", bare, x -> x.narrow(1, 0, 40, 40));
        traps(due, 't', "free", sealed, x -> x.free(1));
        traps(due, 's', "free", sealed, x -> x.free(0));
        traps(due, 'p', "free", bare, x -> x.free(0));
        traps(due, 'f', "free", Sealhouse::new, x -> x.free(7));
        traps(due, 't', "unseal", sealed, x -> x.unseal(1, 1));
        traps(due, 's', "unseal", bare, x -> x.unseal(1, 0));
        Scenes.Maker full = () -> Scenes.with(x -> x.setQuota(0, 32), x -> x.get(0, 32));
        traps(due, 'q', "get", full, x -> x.get(0, 32));
        Scenes.Maker fullForAnother = () -> Scenes.with(x -> x.setQuota(0, 32), x -> x.get(0, 32), x -> x.call(1));
        traps(due, 'm', "get", fullForAnother, x -> x.get(0, 1));
        traps(due, 'q', "get", fullForAnother, x -> x.get(0, 17));
        Scenes.Maker deepest = () -> Scenes.deep(7);
        traps(due, 't', "callSealed", deepest, x -> x.callSealed(0));
        traps(due, 's', "callSealed", deepest, x -> x.callSealed(7));
        traps(due, 'd', "call", deepest, x -> x.call(0));
    }

    @Says(in = "Traps", words = "'t', what is used as a right is a number")
    static void trapT(Check due) {
        Scenes.Maker number = () -> Scenes.with(x -> x.put(0, 32), x -> x.step(1, 7, 8), x -> x.step(1, 1, 9));
        for (int r = 0; r < 2; r++) {
            int from = r;
            traps(due, 't', "narrow", number, x -> x.narrow(2, from, 32, 1));
            traps(due, 't', "restrict", number, x -> x.restrict(2, from, 0));
            traps(due, 't', "step", number, x -> x.step(2, from, 0));
            traps(due, 't', "load", number, x -> x.load(2, from));
            traps(due, 't', "store", number, x -> x.store(from, 7));
            traps(due, 't', "seal", number, x -> x.seal(2, from));
            traps(due, 't', "unseal", number, x -> x.unseal(2, from));
            traps(due, 't', "callSealed", number, x -> x.callSealed(from));
            traps(due, 't', "free", number, x -> x.free(from));
            due.fine("move", number.make().move(2, from));
            due.fine("store of it", number.make().store(7, from));
        }
    }

    @Says(in = "Traps", words = "'s', it is sealed")
    static void trapS(Check due) {
        Scenes.Maker own = () -> Scenes.with(SEAL);
        Scenes.Maker another = () -> Scenes.with(SEAL, x -> x.call(2));
        for (Scenes.Maker maker : new Scenes.Maker[] {own, another}) {
            traps(due, 's', "narrow", maker, x -> x.narrow(2, 0, 0, 1));
            traps(due, 's', "restrict", maker, x -> x.restrict(2, 0, 127));
            traps(due, 's', "step", maker, x -> x.step(2, 0, 0));
            traps(due, 's', "load", maker, x -> x.load(2, 0));
            traps(due, 's', "store", maker, x -> x.store(0, 2));
            traps(due, 's', "seal", maker, x -> x.seal(2, 0));
            traps(due, 's', "free", maker, x -> x.free(0));
            due.fine("move", maker.make().move(2, 0));
            due.fine("store of it", maker.make().store(7, 0));
        }
        Scenes.Maker heap = () -> Scenes.with(x -> x.get(0, 1), x -> x.seal(0, 0));
        traps(due, 's', "free of what was got", heap, x -> x.free(0));
    }

    @Says(in = "Traps", words = "'p', it has not the permission")
    static void trapP(Check due) {
        Scenes.Maker[] but = new Scenes.Maker[128];
        for (int p = 1; p <= 64; p *= 2) {
            int told = p;
            but[p] = () -> Scenes.with(x -> x.get(0, 1), x -> x.restrict(0, 0, 127 - told), x -> x.put(5, 1));
            due.same("load but " + p, but[p].make().load(1, 0), p == 1 ? 'p' : '-');
            due.same("store of a number but " + p, but[p].make().store(0, 5), p == 2 ? 'p' : '-');
            due.same("store of a right but " + p, but[p].make().store(0, 7), p == 2 || p == 8 ? 'p' : '-');
            due.same("free but " + p, but[p].make().free(0), p == 2 ? 'p' : '-');
        }
        Scenes.Maker none = () -> Scenes.with(x -> x.restrict(0, 7, 0));
        traps(due, 'p', "load", none, x -> x.load(1, 0));
        traps(due, 'p', "store", none, x -> x.store(0, 1));
        due.fine("narrow needs none", none.make().narrow(1, 0, 0, 1));
        due.fine("restrict needs none", none.make().restrict(1, 0, 0));
        due.fine("step needs none", none.make().step(1, 0, 1));
        due.fine("seal needs none", none.make().seal(1, 0));
        due.fine("unseal needs none", Scenes.with(x -> x.restrict(0, 7, 0), SEAL).unseal(1, 0));
        due.fine("callSealed needs none", Scenes.with(x -> x.restrict(0, 7, 0), x -> x.seal(0, 0)).callSealed(0));
    }

    @Says(in = "Traps", words = "'b', its address, or what is asked for, is not from its base on and ahead of its top")
    static void trapB(Check due) {
        for (int address = -8; address <= 16; address++) {
            int steps = address;
            char answer = address >= 0 && address < 8 ? '-' : 'b';
            Scenes.Maker at = () -> Scenes.with(x -> x.step(0, 7, steps));
            due.same("load at " + address, at.make().load(1, 0), answer);
            due.same("store at " + address, at.make().store(0, 1), answer);
            due.same("store of a right at " + address, at.make().store(0, 7), answer);
        }
        Scenes.Maker narrowed = () -> Scenes.with(x -> x.narrow(0, 7, 3, 2));
        due.fine("load at the base", narrowed.make().load(1, 0));
        due.fine("load at the last one", Scenes.with(x -> x.narrow(0, 7, 3, 2), x -> x.step(0, 0, 1)).load(1, 0));
        traps(due, 'b', "load at the top", () -> Scenes.with(x -> x.narrow(0, 7, 3, 2), x -> x.step(0, 0, 2)),
                x -> x.load(1, 0));
        traps(due, 'b', "load below the base", () -> Scenes.with(x -> x.narrow(0, 7, 3, 2), x -> x.step(0, 0, -1)),
                x -> x.load(1, 0));
        due.fine("narrow to the same", narrowed.make().narrow(1, 0, 3, 2));
        traps(due, 'b', "narrow to a lower base", narrowed, x -> x.narrow(1, 0, 2, 2));
        traps(due, 'b', "narrow to a higher top", narrowed, x -> x.narrow(1, 0, 4, 2));
        traps(due, 'b', "narrow to what is elsewhere", narrowed, x -> x.narrow(1, 0, 95, 96));
        Scenes.Maker far = () -> Scenes.with(x -> x.get(0, 2), x -> x.step(0, 0, 10));
        due.fine("narrow of a right with its address outside", far.make().narrow(1, 0, 64, 1));
        due.fine("restrict of it", far.make().restrict(1, 0, 1));
        due.fine("step of it", far.make().step(1, 0, -10));
        due.fine("seal of it", far.make().seal(1, 0));
        due.fine("unseal of it", Scenes.with(x -> x.step(0, 7, -8), x -> x.seal(0, 0)).unseal(0, 0));
        due.fine("callSealed with it", Scenes.with(x -> x.step(0, 7, -8), x -> x.seal(0, 0)).callSealed(0));
        due.fine("free of it", far.make().free(0));
    }

    @Says(in = "Traps", words = "'l', a right without the permission 16 is stored through one without 32;")
    static void trapL(Check due) {
        for (int stored = 0; stored < 2; stored++) {
            for (int via = 0; via < 2; via++) {
                int from = 111 + 16 * stored;
                int through = 95 + 32 * via;
                Scenes.Maker kept = () -> Scenes.with(x -> x.restrict(0, 7, from), x -> x.restrict(1, 6, through));
                due.same("store of " + from + " through " + through, kept.make().store(1, 0),
                        stored + via == 0 ? 'l' : '-');
            }
        }
        traps(due, 'l', "a sealed one", () -> Scenes.with(x -> x.seal(0, 6)), x -> x.store(7, 0));
        traps(due, 'l', "one of the heap", () -> Scenes.with(x -> x.get(0, 1)), x -> x.store(0, 6));
        due.fine("a number", Scenes.with(x -> x.restrict(1, 6, 95)).store(1, 0));
    }

    @Says(in = "Traps", words = "'q', more cells than the quota tells")
    static void trapQ(Check due) {
        for (int quota = 0; quota <= 32; quota++) {
            int told = quota;
            Scenes.Maker maker = () -> Scenes.with(x -> x.setQuota(0, told));
            int most = quota > 16 ? quota / 4 * 4 : quota > 8 ? quota / 2 * 2 : quota;
            if (most > 0) {
                due.fine("get " + most + " of " + quota, maker.make().get(0, most));
            }
            if (most < 32) {
                traps(due, 'q', "get " + (most + 1) + " of " + quota, maker, x -> x.get(0, most + 1));
            }
        }
        Scenes.Maker one = () -> Scenes.with(x -> x.get(0, 8), x -> x.get(1, 7));
        due.fine("what is left", one.make().get(2, 1));
        traps(due, 'q', "more than is left", one, x -> x.get(2, 2));
    }

    @Says(in = "Traps", words = "'m', no such free cells")
    static void trapM(Check due) {
        Scenes.Maker but = () -> Scenes.with(x -> x.setQuota(0, 32), x -> x.setQuota(1, 32), x -> x.get(0, 20),
                x -> x.get(0, 10), x -> x.get(0, 1), x -> x.call(1));
        due.fine("the last one", but.make().get(0, 1));
        traps(due, 'm', "more than the last one", but, x -> x.get(0, 2));
        Scenes.Maker rests = () -> Scenes.with(x -> x.setQuota(0, 32), x -> x.setQuota(1, 32), x -> x.get(0, 32),
                x -> x.free(0), x -> x.call(1));
        traps(due, 'm', "cells that rest are not free", rests, x -> x.get(0, 1));
        Scenes.Maker swept = () -> Scenes.with(x -> x.setQuota(0, 32), x -> x.get(0, 32), x -> x.free(0),
                x -> x.sweep());
        due.fine("behind a sweep", swept.make().get(0, 32));
        // 64 and 67 are free alone, so that no two are behind one another
        Scenes.Maker apart = () -> Scenes.with(x -> x.setQuota(0, 32), x -> x.setQuota(1, 32), x -> x.get(2, 1),
                x -> x.get(0, 1), x -> x.get(0, 20), x -> x.get(0, 8), x -> x.get(0, 1), x -> x.free(2), x -> x.sweep(),
                x -> x.call(1));
        due.same("free cells", Scenes.states(apart.make()).substring(64).replace("g", "").length(), 2);
        traps(due, 'm', "two that are apart", apart, x -> x.get(0, 2));
        // 19 free cells from 77 on are enough for 16, but not for 20
        Scenes.Maker odd = () -> Scenes.with(x -> x.setQuota(0, 32), x -> x.setQuota(1, 32), x -> x.get(2, 8),
                x -> x.get(3, 5), x -> x.call(1));
        due.fine("16 of 19", odd.make().get(0, 16));
        traps(due, 'm', "20 of 19", odd, x -> x.get(0, 17));
        // 65 to 74 are free, but 10 cells need a base that can be divided by 2
        Scenes.Maker rounded = () -> Scenes.with(x -> x.setQuota(0, 32), x -> x.setQuota(1, 32), x -> x.get(2, 1),
                x -> x.get(3, 8), x -> x.get(4, 2), x -> x.get(5, 20), x -> x.get(5, 1), x -> x.free(3), x -> x.free(4),
                x -> x.sweep(), x -> x.call(1));
        due.same("ten free ones", Scenes.states(rounded.make()).substring(64), "gffffffffffggggggggggggggggggggg");
        due.fine("8 of them", rounded.make().get(0, 8));
        traps(due, 'm', "10 of them", rounded, x -> x.get(0, 10));
    }

    @Says(in = "Traps", words = "'d', a call beyond the depth 7")
    static void trapD(Check due) {
        due.fine("call to the depth 7", Scenes.deep(6).call(3));
        traps(due, 'd', "call", () -> Scenes.deep(7), x -> x.call(3));
        Scenes.Maker sealed = () -> {
            Sealhouse x = Scenes.with(SEAL);
            for (int d = 1; d <= 7; d++) {
                x.call(1);
            }
            return x;
        };
        due.same("depth", sealed.make().depth(), 7);
        traps(due, 'd', "callSealed", sealed, x -> x.callSealed(0));
        Sealhouse x = Scenes.deep(7);
        x.call(0);
        due.same("depth behind it", x.depth(), 6);
        due.fine("call to the depth 7 again", x.call(0));
        Sealhouse y = Scenes.with(SEAL, z -> z.call(0), z -> z.call(0), z -> z.call(0), z -> z.call(0), z -> z.call(0),
                z -> z.call(0));
        due.fine("callSealed to the depth 7", y.callSealed(0));
        due.same("depth", y.depth(), 7);
    }

    @Says(in = "Traps", words = "'f', no right that can be freed.")
    static void trapF(Check due) {
        traps(due, 'f', "globals", Sealhouse::new, x -> x.free(7));
        traps(due, 'f', "a part of the stack", Sealhouse::new, x -> x.free(6));
        Scenes.Maker got = () -> Scenes.with(x -> x.get(0, 4));
        traps(due, 'f', "too short", got, x -> {
            x.narrow(0, 0, 64, 3);
            return x.free(0);
        });
        traps(due, 'f', "too late", got, x -> {
            x.narrow(0, 0, 65, 3);
            return x.free(0);
        });
        traps(due, 'f', "freed already", got, x -> {
            x.free(0);
            return x.free(0);
        });
        due.fine("just that", got.make().free(0));
    }

    @Says(in = "Traps", words = "An operation that traps does nothing else")
    static void nothingElse(Check due) {
        // at the depth 0 a trap begins the call again, as a load of a number does there: so all else must be alike
        Scenes.Use[] filled = {x -> x.get(1, 4), x -> x.put(2, 5), x -> x.store(1, 2), x -> x.store(7, 1),
            x -> x.step(3, 7, 8), x -> x.restrict(4, 7, 0), x -> x.seal(5, 7)};
        Scenes.Use[] trapping = {x -> x.store(3, 2), x -> x.store(4, 2), x -> x.store(5, 2), x -> x.store(7, 6),
            x -> x.load(2, 3), x -> x.narrow(2, 1, 64, 5), x -> x.step(2, 5, 1), x -> x.restrict(2, 5, 0),
            x -> x.seal(2, 5), x -> x.unseal(2, 7), x -> x.callSealed(7), x -> x.get(2, 13), x -> x.free(7),
            x -> x.free(5)};
        String dull = withoutTraps(() -> trappedOn(Scenes.with(filled), x -> x.load(2, 2)));
        for (int i = 0; i < trapping.length; i++) {
            Scenes.Use call = trapping[i];
            due.same("trap " + i, withoutTraps(() -> trappedOn(Scenes.with(filled), call)), dull);
        }
    }

    private static Sealhouse trappedOn(Sealhouse x, Scenes.Use call) {
        call.on(x);
        return x;
    }

    /** All that can be asked but how many traps there were. */
    private static String withoutTraps(Scenes.Maker maker) {
        return Scenes.whole(maker).replace(Scenes.traps(maker.make()), "");
    }

    @Says(in = "Traps",
            words = "the call in which it does is ended, and the one that called it gets the number -1 in its "
                    + "register 0, as if this was handed back")
    static void trapEndsTheCall(Check due) {
        for (int d = 1; d <= 7; d++) {
            int part = 32 + 4 * d;
            Sealhouse x = Scenes.deep(d - 1);
            x.step(0, 6, 1);
            x.move(1, 0);
            x.put(4, 44);
            x.call(1);
            x.store(6, 7);
            x.step(2, 6, 3);
            x.store(1, 2);
            x.store(2, 4);
            due.same("trap", x.load(0, 4), 't');
            due.same("depth", x.depth(), d - 1);
            due.same("register 0", Scenes.right(x, 0), "number -1");
            due.same("register 1", Scenes.right(x, 1), (part - 4) + ".." + part + " at " + (part - 3)
                    + " may 111 seal 0");
            due.same("register 4", Scenes.right(x, 4), "number 44");
            due.no("its part", x.hasRight(part));
            due.same("its part", x.cell(part), 0);
            due.no("a right to its part", x.hasRight(part - 3));
            due.same("a right to its part", x.cell(part - 3), part + 3);
            due.no("reaches", x.reaches(1, part));
        }
        Scenes.Use[] trapping = {z -> z.load(0, 5), z -> z.store(7, 6), z -> z.narrow(0, 7, 0, 1), z -> z.unseal(0, 7),
            z -> z.callSealed(7), z -> z.get(0, 17), z -> z.free(7)};
        String left = withoutTraps(() -> {
            Sealhouse z = Scenes.busy();
            z.put(0, -1);
            z.leave();
            return z;
        });
        for (int i = 0; i < trapping.length; i++) {
            Scenes.Use call = trapping[i];
            due.yes("trap " + i, !call.on(Scenes.busy()).equals('-'));
            due.same("as if -1 was handed back, trap " + i, withoutTraps(() -> trappedOn(Scenes.busy(), call)), left);
        }
        Sealhouse y = Scenes.with(z -> z.call(1), z -> z.call(2), z -> z.load(0, 0), z -> z.load(0, 0));
        due.same("one call for each trap", y.depth(), 0);
        due.same("register 0", y.value(0), -1);
    }

    @Says(in = "Traps",
            words = "at the depth 0, the call begins again instead, with 0 handed to it twice, and its part of the "
                    + "stack as it is.")
    static void trapAtTheDepthZero(Check due) {
        Sealhouse x = new Sealhouse();
        x.put(5, 9);
        x.store(6, 5);
        x.step(5, 6, 3);
        x.store(5, 5);
        for (int r = 0; r < 8; r++) {
            x.put(r, 70 + r);
        }
        due.same("trap", x.load(1, 1), 't');
        due.same("depth", x.depth(), 0);
        due.same("runs", x.runs(0), 0);
        due.same("registers", Scenes.registers(x), Scenes.registers(new Sealhouse()));
        due.same("the first cell of its part", x.cell(32), 9);
        due.same("the last cell of its part", x.cell(35), 35);
        due.yes("a right to its part", x.hasRight(35));
    }

    // ---- Exceptions ----

    @Says(in = "Exceptions", words = "A method that throws an exception changes nothing.")
    static void exceptionsChangeNothing(Check due) {
        Class<?> index = Scenes.INDEX;
        Class<?> argument = Scenes.ARGUMENT;
        due.same("a busy machine", Scenes.busy().depth() + " " + Scenes.traps(Scenes.busy()),
                "3 t1 s0 p0 b0 l0 q0 m0 d0 f0 ");
        // where the call, were its arguments right, would trap or end a call
        Scenes.refuses(due, index, "load(8, 0)", x -> x.load(8, 0));
        Scenes.refuses(due, index, "store(8, 0)", x -> x.store(8, 0));
        Scenes.refuses(due, argument, "narrow(0, 0, 0, 0)", x -> x.narrow(0, 0, 0, 0));
        Scenes.refuses(due, argument, "restrict(0, 0, 128)", x -> x.restrict(0, 0, 128));
        Scenes.refuses(due, argument, "step(0, 0, 100)", x -> x.step(0, 0, 100));
        Scenes.refuses(due, argument, "get(0, 33)", x -> x.get(0, 33));
        Scenes.refuses(due, index, "free(8)", x -> x.free(8));
        Scenes.refuses(due, argument, "setQuota(0, 33)", x -> x.setQuota(0, 33));
        Scenes.refuses(due, argument, "traps", x -> x.traps('x'));
        Scenes.refuses(due, () -> Scenes.deep(7), index, "call(4) at the depth 7", x -> x.call(4));
        Scenes.refuses(due, () -> Scenes.deep(7), index, "callSealed(8) at the depth 7", x -> x.callSealed(8));
        Scenes.refuses(due, Sealhouse::new, IllegalStateException.class, "leave", x -> x.leave());
    }

    @Says(in = "Exceptions", words = "If several exceptions apply, the one that is documented first is thrown.")
    static void firstExceptionThatApplies(Check due) {
        Class<?> index = Scenes.INDEX;
        Class<?> argument = Scenes.ARGUMENT;
        Sealhouse x = new Sealhouse();
        due.throwsA(index, "narrow", () -> x.narrow(8, 0, 96, 0));
        due.throwsA(index, "narrow", () -> x.narrow(0, 8, 96, 0));
        due.throwsA(index, "restrict", () -> x.restrict(-1, 0, 128));
        due.throwsA(index, "restrict", () -> x.restrict(0, -1, 128));
        due.throwsA(index, "step", () -> x.step(8, 0, -100));
        due.throwsA(index, "step", () -> x.step(0, 8, -100));
        due.throwsA(index, "get", () -> x.get(8, 0));
        due.throwsA(index, "setQuota", () -> x.setQuota(4, 33));
        due.throwsA(index, "ask", () -> x.ask(8, 'x'));
        due.throwsA(index, "ask", () -> x.ask(8, 'b'));
        due.throwsA(argument, "ask", () -> x.ask(0, 'x'));
    }

    // ---- Clarifications ----

    @Says(in = "Clarifications",
            words = "When the call at the depth 0 begins again by a trap, its registers are as at a beginning")
    static void registersBeginAgain(Check due) {
        String first = Scenes.registers(new Sealhouse());
        Scenes.Use[] trapping = {x -> x.load(0, 0), x -> x.store(7, 6), x -> x.get(0, 17), x -> x.free(7),
            x -> x.unseal(0, 7), x -> x.narrow(0, 7, 8, 1), x -> x.callSealed(7)};
        for (int i = 0; i < trapping.length; i++) {
            Sealhouse x = Scenes.with(y -> y.put(0, 1), y -> y.put(1, 2), y -> y.move(2, 7), y -> y.get(3, 1),
                    y -> y.step(6, 6, 1), y -> y.put(0, 0), trapping[i]);
            due.same("registers behind trap " + i, Scenes.registers(x), first);
        }
    }

    @Says(in = "Clarifications", words = "and all cells, with the rights in them, stay as they are.")
    static void cellsStay(Check due) {
        Scenes.Use[] filled = {x -> x.get(0, 2), x -> x.store(0, 7), x -> x.store(7, 0), x -> x.step(1, 6, 2),
            x -> x.store(6, 1), x -> x.put(2, 3), x -> x.store(1, 2), x -> x.step(1, 1, 1), x -> x.store(1, 0)};
        String before = Scenes.cells(Scenes.with(filled));
        Sealhouse x = Scenes.with(filled);
        due.same("trap", x.load(2, 2), 't');
        due.same("cells", Scenes.cells(x), before);
        due.yes("a right to the part of the stack, in it", x.hasRight(32));
        due.same("stateOf", x.stateOf(64), 'g');
        due.same("counted", x.counted(0), 2);
    }

    @Says(in = "Clarifications", words = "The quota is looked at with the number of cells made up.")
    static void quotaOfMadeUpCells(Check due) {
        int[][] cases = {{9, 9, 10}, {15, 15, 16}, {17, 17, 20}, {19, 18, 20}, {29, 30, 32}, {31, 31, 32}};
        for (int[] c : cases) {
            due.same("get " + c[0] + " of " + c[1], Scenes.with(x -> x.setQuota(0, c[1])).get(0, c[0]), 'q');
            Sealhouse x = Scenes.with(y -> y.setQuota(0, c[2]));
            due.fine("get " + c[0] + " of " + c[2], x.get(0, c[0]));
            due.same("counted", x.counted(0), c[2]);
        }
        Sealhouse x = Scenes.with(y -> y.get(0, 7));
        due.same("9 of 9 that are left", x.get(0, 9), 'q');
    }
}
