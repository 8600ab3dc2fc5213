/** Promises 11 to 13: calls, calls through sealed rights and returns, and what traps do to calls. */
public final class CallsTest {
    private static final Check CHECK = new Check("CallsTest");
    private static final Class<?> INDEX = IndexOutOfBoundsException.class;
    private static final Class<?> STATE = IllegalStateException.class;

    private CallsTest() {
    }

    private static void holds(Sealhouse x, int register, String due) {
        CHECK.same("register " + register, OperationsTest.right(x, register), due);
    }

    public static void main(String[] args) {
        callHandsOnTwo();
        callTooDeep();
        callSealed();
        callSealedTraps();
        leaveHandsBack();
        leaveClearsThePart();
        leaveTakesStackRights();
        trapEndsTheCall();
        CHECK.end();
    }

    private static void callHandsOnTwo() {
        Sealhouse x = new Sealhouse();
        for (int r = 0; r < 6; r++) {
            x.put(r, 10 + r);
        }
        x.move(1, 6);
        CHECK.fine("call", x.call(2));
        CHECK.same("depth", x.depth(), 1);
        CHECK.same("runs", x.runs(1), 2);
        CHECK.same("runs", x.runs(0), 0);
        holds(x, 0, "number 10");
        holds(x, 1, "32..36 at 32 may 111 seal 0");
        for (int r = 2; r < 6; r++) {
            holds(x, r, "number 0");
        }
        holds(x, 6, "36..40 at 36 may 111 seal 0");
        holds(x, 7, "16..24 at 16 may 95 seal 0");
        x.put(1, 99);
        x.put(5, 99);
        x.put(0, 77);
        CHECK.same("leave", x.leave(), 0);
        holds(x, 0, "number 77");
        holds(x, 1, "32..36 at 32 may 111 seal 0");
        holds(x, 2, "number 12");
        holds(x, 5, "number 15");
        CHECK.throwsA(INDEX, "call", () -> x.call(4));
        CHECK.throwsA(INDEX, "call", () -> x.call(-1));
        CHECK.fine("a compartment calls itself", x.call(0));
        holds(x, 7, "0..8 at 0 may 95 seal 0");
        holds(x, 0, "number 77");
        holds(x, 5, "number 0");
    }

    private static void callTooDeep() {
        Sealhouse x = new Sealhouse();
        for (int d = 1; d <= 7; d++) {
            CHECK.fine("call", x.call(d % 4));
            holds(x, 6, (32 + 4 * d) + ".." + (36 + 4 * d) + " at " + (32 + 4 * d) + " may 111 seal 0");
        }
        CHECK.same("depth", x.depth(), 7);
        CHECK.throwsA(INDEX, "no such compartment ahead of the trap", () -> x.call(4));
        x.store(6, 6);
        CHECK.same("call beyond the depth", x.call(0), 'd');
        CHECK.same("traps d", x.traps('d'), 1);
        CHECK.same("depth", x.depth(), 6);
        holds(x, 0, "number -1");
        CHECK.same("the part is cleared", x.cell(60), 0);
        CHECK.no("the part is cleared", x.hasRight(60));
        x.call(1);
        x.seal(2, 7);
        CHECK.same("sealed call beyond the depth", x.callSealed(2), 'd');
        CHECK.same("traps d", x.traps('d'), 2);
    }

    private static void callSealed() {
        Sealhouse x = new Sealhouse();
        x.call(3);
        x.restrict(0, 7, 1 + 16);
        x.step(0, 0, 2);
        x.seal(0, 0);
        x.leave();
        holds(x, 0, "24..32 at 26 may 17 seal 4");
        x.move(5, 0);
        x.put(0, 8);
        x.put(1, 9);
        CHECK.fine("callSealed", x.callSealed(5));
        CHECK.same("runs", x.runs(1), 3);
        holds(x, 0, "24..32 at 26 may 17 seal 0");
        holds(x, 1, "number 9");
        holds(x, 5, "number 0");
        holds(x, 7, "24..32 at 24 may 95 seal 0");
        x.put(0, 4);
        x.leave();
        holds(x, 0, "number 4");
        holds(x, 1, "number 9");
        holds(x, 5, "24..32 at 26 may 17 seal 4");
        CHECK.throwsA(INDEX, "callSealed", () -> x.callSealed(8));
        CHECK.throwsA(INDEX, "callSealed", () -> x.callSealed(-1));
        x.move(1, 5);
        CHECK.fine("callSealed through the register 1", x.callSealed(1));
        holds(x, 0, "24..32 at 26 may 17 seal 0");
        holds(x, 1, "24..32 at 26 may 17 seal 4");
    }

    private static void callSealedTraps() {
        Sealhouse x = new Sealhouse();
        CHECK.same("through a number", x.callSealed(0), 't');
        CHECK.same("through what is not sealed", x.callSealed(7), 's');
        for (int d = 1; d <= 7; d++) {
            x.call(0);
        }
        CHECK.same("'s' ahead of 'd'", x.callSealed(7), 's');
        CHECK.same("depth", x.depth(), 6);
        x.call(0);
        CHECK.same("'t' ahead of 'd'", x.callSealed(2), 't');
        CHECK.same("traps d", x.traps('d'), 0);
    }

    private static void leaveHandsBack() {
        Sealhouse x = new Sealhouse();
        CHECK.throwsA(STATE, "leave at the depth 0", () -> x.leave());
        x.call(1);
        x.move(0, 6);
        CHECK.same("leave", x.leave(), 0);
        holds(x, 0, "number 0");
        x.call(1);
        x.restrict(0, 7, 127 - 16);
        x.leave();
        holds(x, 0, "number 0");
        x.call(1);
        x.restrict(0, 7, 127 - 16);
        x.seal(0, 0);
        x.leave();
        holds(x, 0, "number 0");
        x.call(1);
        x.restrict(0, 7, 16);
        x.leave();
        holds(x, 0, "8..16 at 8 may 16 seal 0");
        CHECK.throwsA(STATE, "leave at the depth 0", () -> x.leave());
        holds(x, 0, "8..16 at 8 may 16 seal 0");
        x.call(0);
        x.call(0);
        CHECK.same("leave", x.leave(), 1);
        CHECK.same("leave", x.leave(), 0);
    }

    private static void leaveClearsThePart() {
        Sealhouse x = new Sealhouse();
        x.put(2, 5);
        x.store(6, 2);
        x.call(1);
        x.put(2, 6);
        for (int i = 0; i < 4; i++) {
            x.step(3, 6, i);
            x.store(3, 2);
            CHECK.same("cell", x.cell(36 + i), 6);
        }
        x.store(7, 2);
        x.leave();
        for (int i = 36; i < 40; i++) {
            CHECK.same("cell", x.cell(i), 0);
        }
        CHECK.same("the caller's part stays", x.cell(32), 5);
        CHECK.same("globals stay", x.cell(8), 6);
    }

    private static void leaveTakesStackRights() {
        Sealhouse x = new Sealhouse();
        x.move(0, 6);
        x.call(1);
        x.step(2, 6, 6);
        x.store(0, 2);
        CHECK.yes("a stack right in the caller's part", x.hasRight(32));
        CHECK.yes("reaches", x.reaches(0, 36));
        x.step(1, 0, 1);
        x.seal(2, 6);
        x.store(1, 2);
        x.step(1, 0, 2);
        x.store(1, 0);
        x.leave();
        CHECK.no("it becomes a number", x.hasRight(32));
        CHECK.same("its address", x.cell(32), 42);
        CHECK.no("a sealed one too", x.hasRight(33));
        CHECK.same("its address", x.cell(33), 36);
        CHECK.yes("the caller's own stay", x.hasRight(34));
        CHECK.no("reaches", x.reaches(0, 36));
        CHECK.yes("hasReached", x.hasReached(0, 36));
        CHECK.yes("isSound", x.isSound());
    }

    private static void trapEndsTheCall() {
        Sealhouse x = new Sealhouse();
        x.put(0, 1);
        x.put(1, 2);
        x.put(2, 3);
        x.move(0, 6);
        x.call(1);
        x.put(4, 9);
        x.store(6, 4);
        x.store(0, 6);
        CHECK.same("trap", x.load(0, 4), 't');
        CHECK.same("depth", x.depth(), 0);
        holds(x, 0, "number -1");
        holds(x, 1, "number 2");
        holds(x, 2, "number 3");
        holds(x, 4, "number 0");
        CHECK.same("cell", x.cell(36), 0);
        CHECK.same("cell", x.cell(32), 36);
        CHECK.no("hasRight", x.hasRight(32));
        CHECK.same("traps t", x.traps('t'), 1);
    }
}
