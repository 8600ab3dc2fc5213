import java.util.NoSuchElementException;

/** Promises 1 to 10: a new object, and the operations on registers, rights and cells. */
public final class OperationsTest {
    private static final Check CHECK = new Check("OperationsTest");
    private static final Class<?> INDEX = IndexOutOfBoundsException.class;
    private static final Class<?> ARGUMENT = IllegalArgumentException.class;

    private OperationsTest() {
    }

    /** Base, top, address, permissions and seal of the right in a register. */
    static String right(Sealhouse x, int register) {
        if (!x.isRight(register)) {
            return "number " + x.value(register);
        }
        return x.ask(register, 'b') + ".." + x.ask(register, 't') + " at " + x.value(register) + " may "
                + x.ask(register, 'p') + " seal " + x.ask(register, 's');
    }

    private static void holds(Sealhouse x, int register, String due) {
        CHECK.same("register " + register, right(x, register), due);
    }

    public static void main(String[] args) {
        newObject();
        put();
        move();
        narrow();
        narrowRounds();
        narrowTraps();
        restrict();
        step();
        load();
        loadTakesPermissions();
        store();
        storeTraps();
        seal();
        unseal();
        trapsAtDepthZero();
        CHECK.end();
    }

    private static void newObject() {
        Sealhouse x = new Sealhouse();
        for (int r = 0; r < 6; r++) {
            holds(x, r, "number 0");
        }
        holds(x, 6, "32..36 at 32 may 111 seal 0");
        holds(x, 7, "0..8 at 0 may 95 seal 0");
        for (int i = 0; i < 96; i++) {
            CHECK.same("cell " + i, x.cell(i), 0);
            CHECK.no("hasRight " + i, x.hasRight(i));
            CHECK.same("stateOf " + i, x.stateOf(i), i < 64 ? '-' : 'f');
            for (int c = 0; c < 4; c++) {
                boolean due = i / 8 == c || c == 0 && i >= 32 && i < 36;
                CHECK.same("reaches " + c + " " + i, x.reaches(c, i), due);
                CHECK.same("hasReached " + c + " " + i, x.hasReached(c, i), due);
            }
        }
        CHECK.same("depth", x.depth(), 0);
        CHECK.same("runs", x.runs(0), 0);
        CHECK.yes("isSound", x.isSound());
    }

    private static void put() {
        Sealhouse x = new Sealhouse();
        CHECK.fine("put", x.put(7, Integer.MIN_VALUE));
        holds(x, 7, "number -2147483648");
        CHECK.fine("put", x.put(0, Integer.MAX_VALUE));
        holds(x, 0, "number 2147483647");
        CHECK.fine("put", x.put(1, -1));
        holds(x, 1, "number -1");
        CHECK.throwsA(INDEX, "put(-1)", () -> x.put(-1, 0));
        CHECK.throwsA(INDEX, "put(8)", () -> x.put(8, 0));
        holds(x, 1, "number -1");
    }

    private static void move() {
        Sealhouse x = new Sealhouse();
        CHECK.fine("move", x.move(0, 7));
        holds(x, 0, "0..8 at 0 may 95 seal 0");
        holds(x, 7, "0..8 at 0 may 95 seal 0");
        x.put(1, 5);
        CHECK.fine("move", x.move(7, 1));
        holds(x, 7, "number 5");
        x.seal(2, 0);
        CHECK.fine("move of a sealed right", x.move(3, 2));
        holds(x, 3, "0..8 at 0 may 95 seal 1");
        CHECK.throwsA(INDEX, "move", () -> x.move(8, 0));
        CHECK.throwsA(INDEX, "move", () -> x.move(0, 8));
        CHECK.throwsA(INDEX, "move", () -> x.move(-1, 0));
    }

    private static void narrow() {
        Sealhouse x = new Sealhouse();
        x.step(7, 7, 3);
        CHECK.fine("narrow to the same", x.narrow(0, 7, 0, 8));
        holds(x, 0, "0..8 at 0 may 95 seal 0");
        CHECK.fine("narrow", x.narrow(0, 7, 7, 1));
        holds(x, 0, "7..8 at 7 may 95 seal 0");
        x.restrict(1, 6, 5);
        CHECK.fine("narrow keeps permissions", x.narrow(1, 1, 33, 2));
        holds(x, 1, "33..35 at 33 may 5 seal 0");
        CHECK.fine("narrow with the address outside", x.step(2, 7, 10));
        CHECK.fine("narrow with the address outside", x.narrow(2, 2, 1, 2));
        holds(x, 2, "1..3 at 1 may 95 seal 0");
        CHECK.throwsA(INDEX, "narrow", () -> x.narrow(8, 0, -1, 0));
        CHECK.throwsA(INDEX, "narrow", () -> x.narrow(0, -1, -1, 0));
        CHECK.throwsA(ARGUMENT, "narrow", () -> x.narrow(0, 7, -1, 1));
        CHECK.throwsA(ARGUMENT, "narrow", () -> x.narrow(0, 7, 96, 1));
        CHECK.throwsA(ARGUMENT, "narrow", () -> x.narrow(0, 7, 0, 0));
        CHECK.throwsA(ARGUMENT, "narrow", () -> x.narrow(0, 7, 0, 97));
        holds(x, 0, "7..8 at 7 may 95 seal 0");
    }

    private static Sealhouse withHeap() {
        Sealhouse x = new Sealhouse();
        x.setQuota(0, 32);
        x.get(5, 32);
        return x;
    }

    private static void narrowRounds() {
        Sealhouse x = withHeap();
        int[][] cases = {
            {65, 8, 65, 73}, {65, 9, 64, 74}, {66, 9, 66, 76}, {67, 16, 64, 84}, {67, 14, 66, 82}, {67, 15, 66, 82},
            {66, 16, 66, 82}, {66, 17, 64, 84}, {65, 30, 64, 96}, {64, 32, 64, 96}, {95, 1, 95, 96}, {79, 17, 76, 96},
        };
        for (int[] c : cases) {
            CHECK.fine("narrow " + c[0] + " " + c[1], x.narrow(1, 5, c[0], c[1]));
            holds(x, 1, c[2] + ".." + c[3] + " at " + c[2] + " may 95 seal 0");
        }
    }

    private static void narrowTraps() {
        int[][] wide = {{0, 9}, {7, 2}, {8, 1}, {95, 1}, {0, 96}, {95, 96}, {1, 8}};
        for (int[] c : wide) {
            Sealhouse x = new Sealhouse();
            CHECK.same("narrow " + c[0] + " " + c[1], x.narrow(0, 7, c[0], c[1]), 'b');
            CHECK.same("traps b", x.traps('b'), 1);
        }
        Sealhouse x = withHeap();
        x.narrow(1, 5, 66, 10);
        CHECK.same("within ahead of rounding alone", x.narrow(2, 1, 67, 9), '-');
        x.narrow(1, 5, 65, 8);
        CHECK.same("not grown by rounding", x.narrow(2, 1, 65, 9), 'b');
        CHECK.same("narrow of a number", x.narrow(0, 1, 0, 1), 't');
        x.seal(0, 7);
        CHECK.same("narrow of a sealed right", x.narrow(0, 0, 90, 1), 's');
        CHECK.same("depth", x.depth(), 0);
    }

    private static void restrict() {
        Sealhouse x = new Sealhouse();
        x.step(7, 7, -8);
        CHECK.fine("restrict", x.restrict(0, 7, 127));
        holds(x, 0, "0..8 at -8 may 95 seal 0");
        CHECK.fine("restrict", x.restrict(0, 7, 33));
        holds(x, 0, "0..8 at -8 may 1 seal 0");
        CHECK.fine("no right grows", x.restrict(0, 0, 127));
        holds(x, 0, "0..8 at -8 may 1 seal 0");
        CHECK.fine("restrict", x.restrict(0, 0, 0));
        holds(x, 0, "0..8 at -8 may 0 seal 0");
        CHECK.throwsA(ARGUMENT, "restrict", () -> x.restrict(0, 7, 128));
        CHECK.throwsA(ARGUMENT, "restrict", () -> x.restrict(0, 7, -1));
        CHECK.throwsA(INDEX, "restrict", () -> x.restrict(8, 7, -1));
        CHECK.throwsA(INDEX, "restrict", () -> x.restrict(0, 8, -1));
        CHECK.same("restrict of a number", x.restrict(0, 1, 0), 't');
        x.seal(1, 7);
        CHECK.same("restrict of a sealed right", x.restrict(0, 1, 0), 's');
    }

    private static void step() {
        Sealhouse x = new Sealhouse();
        CHECK.fine("step", x.step(0, 7, -8));
        holds(x, 0, "0..8 at -8 may 95 seal 0");
        CHECK.fine("step back", x.step(1, 0, 24));
        holds(x, 1, "0..8 at 16 may 95 seal 0");
        CHECK.fine("step beyond", x.step(2, 1, 1));
        holds(x, 2, "number 17");
        CHECK.fine("step below", x.step(2, 0, -1));
        holds(x, 2, "number -9");
        CHECK.fine("step far", x.step(2, 7, 99));
        holds(x, 2, "number 99");
        CHECK.fine("step far", x.step(2, 7, -99));
        holds(x, 2, "number -99");
        CHECK.fine("step by 0", x.step(2, 1, 0));
        holds(x, 2, "0..8 at 16 may 95 seal 0");
        CHECK.throwsA(ARGUMENT, "step", () -> x.step(0, 7, 100));
        CHECK.throwsA(ARGUMENT, "step", () -> x.step(0, 7, -100));
        CHECK.throwsA(INDEX, "step", () -> x.step(0, 9, 100));
        CHECK.throwsA(INDEX, "step", () -> x.step(-9, 0, 100));
        CHECK.same("step of a number", x.step(0, 5, 1), 't');
        x.seal(1, 7);
        CHECK.same("step of a sealed right", x.step(0, 1, 0), 's');
    }

    private static void load() {
        Sealhouse x = new Sealhouse();
        x.put(0, -77);
        x.step(1, 7, 7);
        x.store(1, 0);
        CHECK.fine("load", x.load(2, 1));
        holds(x, 2, "number -77");
        CHECK.fine("load over the right used", x.load(1, 1));
        holds(x, 1, "number -77");
        CHECK.throwsA(INDEX, "load", () -> x.load(8, 7));
        CHECK.throwsA(INDEX, "load", () -> x.load(0, -1));
        CHECK.same("load through a number", x.load(0, 0), 't');
        x.step(1, 7, -1);
        CHECK.same("load below the base", x.load(0, 1), 'b');
        x.step(1, 7, 8);
        CHECK.same("load at the top", x.load(0, 1), 'b');
        x.restrict(1, 7, 126);
        x.step(1, 1, 8);
        CHECK.same("load without reading", x.load(0, 1), 'p');
        x.restrict(1, 7, 126);
        x.seal(1, 1);
        CHECK.same("load through a sealed right", x.load(0, 1), 's');
    }

    private static void loadTakesPermissions() {
        Sealhouse x = new Sealhouse();
        x.step(1, 7, 5);
        x.store(7, 1);
        CHECK.fine("load", x.load(2, 7));
        holds(x, 2, "0..8 at 5 may 95 seal 0");
        x.restrict(3, 7, 127 - 64);
        CHECK.fine("load without 64", x.load(2, 3));
        holds(x, 2, "0..8 at 5 may 29 seal 0");
        x.restrict(3, 7, 127 - 4);
        CHECK.fine("load without 4", x.load(2, 3));
        holds(x, 2, "number 5");
        x.restrict(3, 7, 1);
        CHECK.fine("load with 1 alone", x.load(2, 3));
        holds(x, 2, "number 5");
        x.restrict(3, 7, 5);
        x.seal(1, 1);
        x.store(7, 1);
        CHECK.fine("load of a sealed right without 64", x.load(2, 3));
        holds(x, 2, "0..8 at 5 may 29 seal 1");
        CHECK.fine("load of a sealed right", x.load(2, 7));
        holds(x, 2, "0..8 at 5 may 95 seal 1");
    }

    private static void store() {
        Sealhouse x = new Sealhouse();
        x.put(0, 9);
        x.step(1, 7, 7);
        CHECK.fine("store", x.store(1, 0));
        CHECK.same("cell", x.cell(7), 9);
        CHECK.no("hasRight", x.hasRight(7));
        CHECK.fine("store a right", x.store(1, 1));
        CHECK.same("cell", x.cell(7), 7);
        CHECK.yes("hasRight", x.hasRight(7));
        x.restrict(2, 1, 2);
        CHECK.fine("store a number with 2 alone", x.store(2, 0));
        CHECK.same("cell", x.cell(7), 9);
        x.restrict(2, 6, 2 + 8 + 32);
        CHECK.fine("store what is not kept anywhere", x.store(2, 6));
        CHECK.yes("hasRight", x.hasRight(32));
        CHECK.fine("store what is kept anywhere", x.store(6, 7));
        CHECK.same("cell", x.cell(32), 0);
        CHECK.throwsA(INDEX, "store", () -> x.store(8, 0));
        CHECK.throwsA(INDEX, "store", () -> x.store(7, 8));
        CHECK.throwsA(INDEX, "store", () -> x.store(-1, 8));
    }

    private static void storeTraps() {
        Sealhouse x = new Sealhouse();
        CHECK.same("store through a number", x.store(0, 7), 't');
        x.restrict(0, 7, 93);
        x.seal(0, 0);
        CHECK.same("store through a sealed right", x.store(0, 7), 's');
        x.restrict(0, 7, 93);
        x.step(0, 0, 9);
        CHECK.same("store without writing", x.store(0, 1), 'p');
        x.restrict(0, 7, 127 - 8);
        x.step(0, 0, 9);
        CHECK.same("store a right without 8", x.store(0, 6), 'p');
        x.step(0, 7, 8);
        CHECK.same("store at the top", x.store(0, 6), 'b');
        x.step(0, 7, -1);
        CHECK.same("store below the base", x.store(0, 1), 'b');
        CHECK.same("store of a stack right", x.store(7, 6), 'l');
        x.restrict(0, 7, 127 - 16);
        CHECK.same("store of a right without 16", x.store(7, 0), 'l');
        x.restrict(0, 6, 127 - 32);
        CHECK.same("store without 32", x.store(0, 6), 'l');
        CHECK.same("traps l", x.traps('l'), 3);
        CHECK.same("checksum", x.checksum(), 0L);
    }

    private static void seal() {
        Sealhouse x = new Sealhouse();
        x.step(0, 7, 9);
        CHECK.fine("seal", x.seal(1, 0));
        holds(x, 1, "0..8 at 9 may 95 seal 1");
        holds(x, 0, "0..8 at 9 may 95 seal 0");
        CHECK.throwsA(INDEX, "seal", () -> x.seal(8, 0));
        CHECK.throwsA(INDEX, "seal", () -> x.seal(0, 8));
        x.call(3);
        CHECK.fine("seal", x.seal(2, 7));
        holds(x, 2, "24..32 at 24 may 95 seal 4");
        CHECK.same("seal of a sealed right", x.seal(2, 2), 's');
        CHECK.same("depth", x.depth(), 0);
        CHECK.same("seal of a number", x.seal(0, 0), 't');
    }

    private static void unseal() {
        Sealhouse x = new Sealhouse();
        x.seal(1, 7);
        CHECK.fine("unseal", x.unseal(2, 1));
        holds(x, 2, "0..8 at 0 may 95 seal 0");
        holds(x, 1, "0..8 at 0 may 95 seal 1");
        CHECK.throwsA(INDEX, "unseal", () -> x.unseal(8, 0));
        CHECK.throwsA(INDEX, "unseal", () -> x.unseal(0, 8));
        x.call(1);
        holds(x, 1, "0..8 at 0 may 95 seal 1");
        CHECK.same("unseal of another's seal", x.unseal(2, 1), 's');
        CHECK.same("depth", x.depth(), 0);
        CHECK.same("unseal of what is not sealed", x.unseal(2, 7), 's');
        CHECK.same("unseal of a number", x.unseal(2, 2), 't');
    }

    private static void trapsAtDepthZero() {
        Sealhouse x = new Sealhouse();
        x.put(3, 3);
        x.store(7, 3);
        x.store(6, 6);
        x.put(7, 1);
        x.put(6, 1);
        CHECK.same("trap", x.load(0, 3), 't');
        for (int r = 0; r < 6; r++) {
            holds(x, r, "number 0");
        }
        holds(x, 6, "32..36 at 32 may 111 seal 0");
        holds(x, 7, "0..8 at 0 may 95 seal 0");
        CHECK.same("cell 0", x.cell(0), 3);
        CHECK.same("cell 32", x.cell(32), 32);
        CHECK.yes("hasRight 32", x.hasRight(32));
        CHECK.throwsA(NoSuchElementException.class, "ask", () -> x.ask(0, 'b'));
    }
}
