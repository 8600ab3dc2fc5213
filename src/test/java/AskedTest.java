import java.util.NoSuchElementException;

/** Promises 20 to 33: what is asked, reaches and figures. */
public final class AskedTest {
    private static final Check CHECK = new Check("AskedTest");
    private static final Class<?> INDEX = IndexOutOfBoundsException.class;
    private static final Class<?> ARGUMENT = IllegalArgumentException.class;
    private static final Class<?> NONE = NoSuchElementException.class;

    private AskedTest() {
    }

    public static void main(String[] args) {
        registers();
        cells();
        depths();
        reachOfRegisters();
        reachIsTransitive();
        reachThroughOthersGlobals();
        reachOfTheOwnPart();
        reachOfManyCells();
        reachOfSealsAndPermissions();
        reachOfWaitingCalls();
        reachOfRestingCells();
        everReached();
        traps();
        figures();
        sound();
        CHECK.end();
    }

    private static void registers() {
        Sealhouse x = new Sealhouse();
        x.step(0, 6, -3);
        x.seal(0, 0);
        CHECK.same("value", x.value(0), 29);
        CHECK.yes("isRight", x.isRight(0));
        CHECK.no("isRight", x.isRight(1));
        CHECK.same("ask", x.ask(0, 'b'), 32);
        CHECK.same("ask", x.ask(0, 't'), 36);
        CHECK.same("ask", x.ask(0, 'p'), 111);
        CHECK.same("ask", x.ask(0, 's'), 1);
        CHECK.throwsA(INDEX, "value", () -> x.value(8));
        CHECK.throwsA(INDEX, "value", () -> x.value(-1));
        CHECK.throwsA(INDEX, "isRight", () -> x.isRight(8));
        CHECK.throwsA(INDEX, "isRight", () -> x.isRight(Integer.MIN_VALUE));
        CHECK.throwsA(INDEX, "ask", () -> x.ask(8, 'x'));
        CHECK.throwsA(ARGUMENT, "ask", () -> x.ask(0, 'x'));
        CHECK.throwsA(ARGUMENT, "ask", () -> x.ask(1, (char) 0));
        CHECK.throwsA(ARGUMENT, "ask", () -> x.ask(1, '\uffff'));
        for (char what : "btps".toCharArray()) {
            CHECK.throwsA(NONE, "ask", () -> x.ask(1, what));
        }
    }

    private static void cells() {
        Sealhouse x = new Sealhouse();
        x.put(0, Integer.MIN_VALUE);
        x.store(7, 0);
        x.step(1, 7, 3);
        x.store(1, 1);
        CHECK.same("cell", x.cell(0), Integer.MIN_VALUE);
        CHECK.no("hasRight", x.hasRight(0));
        CHECK.same("cell", x.cell(3), 3);
        CHECK.yes("hasRight", x.hasRight(3));
        CHECK.throwsA(INDEX, "cell", () -> x.cell(96));
        CHECK.throwsA(INDEX, "cell", () -> x.cell(-1));
        CHECK.throwsA(INDEX, "hasRight", () -> x.hasRight(96));
        CHECK.throwsA(INDEX, "hasRight", () -> x.hasRight(-1));
    }

    private static void depths() {
        Sealhouse x = new Sealhouse();
        CHECK.same("depth", x.depth(), 0);
        CHECK.throwsA(INDEX, "runs", () -> x.runs(1));
        CHECK.throwsA(INDEX, "runs", () -> x.runs(-1));
        x.call(3);
        CHECK.same("depth", x.depth(), 1);
        CHECK.same("runs", x.runs(1), 3);
        x.leave();
        CHECK.throwsA(INDEX, "runs", () -> x.runs(1));
    }

    private static void reachOfRegisters() {
        Sealhouse x = new Sealhouse();
        CHECK.throwsA(INDEX, "reaches", () -> x.reaches(4, 0));
        CHECK.throwsA(INDEX, "reaches", () -> x.reaches(-1, 0));
        CHECK.throwsA(INDEX, "reaches", () -> x.reaches(0, 96));
        CHECK.throwsA(INDEX, "reaches", () -> x.reaches(0, -1));
        CHECK.throwsA(INDEX, "hasReached", () -> x.hasReached(4, 0));
        CHECK.throwsA(INDEX, "hasReached", () -> x.hasReached(-1, 0));
        CHECK.throwsA(INDEX, "hasReached", () -> x.hasReached(0, 96));
        CHECK.throwsA(INDEX, "hasReached", () -> x.hasReached(0, -1));
        x.narrow(0, 7, 2, 2);
        x.call(1);
        for (int i = 0; i < 8; i++) {
            CHECK.same("reaches(1, " + i + ")", x.reaches(1, i), i == 2 || i == 3);
        }
        CHECK.yes("its part of the stack", x.reaches(1, 36));
        CHECK.yes("its part of the stack", x.reaches(1, 39));
        CHECK.no("another's part", x.reaches(1, 32));
        CHECK.no("another's part", x.reaches(0, 36));
        x.put(0, 0);
        CHECK.no("reaches", x.reaches(1, 2));
        CHECK.yes("hasReached", x.hasReached(1, 2));
        CHECK.no("hasReached", x.hasReached(1, 4));
        CHECK.yes("a waiting call's register counts", x.reaches(0, 2));
    }

    private static void reachIsTransitive() {
        Sealhouse x = new Sealhouse();
        x.get(2, 2);
        x.get(3, 2);
        x.get(4, 2);
        x.store(2, 3);
        x.store(3, 4);
        x.store(4, 2);
        x.move(0, 2);
        x.call(1);
        for (int i = 64; i < 72; i++) {
            CHECK.same("reaches(1, " + i + ")", x.reaches(1, i), i < 70);
        }
        CHECK.no("reaches", x.reaches(1, 0));
        x.store(7, 0);
        x.leave();
        CHECK.yes("from globals", x.reaches(1, 69));
        CHECK.no("reaches", x.reaches(2, 64));
    }

    private static void reachThroughOthersGlobals() {
        Sealhouse x = new Sealhouse();
        x.get(2, 1);
        x.step(3, 7, 5);
        x.store(3, 2);
        x.move(0, 7);
        x.call(3);
        x.store(7, 0);
        x.leave();
        CHECK.yes("the globals", x.reaches(3, 0));
        CHECK.yes("what is found there", x.reaches(3, 64));
        CHECK.no("reaches", x.reaches(2, 0));
        CHECK.same("8 + 4 + 1, 8, 8 and 8 + 8 + 1", x.meanReach(), 46 / 4.0);
    }

    private static void reachOfTheOwnPart() {
        Sealhouse x = new Sealhouse();
        x.get(2, 1);
        x.store(6, 2);
        x.put(2, 0);
        x.put(6, 0);
        x.put(7, 0);
        for (int i = 32; i < 36; i++) {
            CHECK.yes("the part without a right to it", x.reaches(0, i));
        }
        CHECK.yes("the globals without a right to them", x.reaches(0, 7));
        CHECK.yes("what is found in the part", x.reaches(0, 64));
    }

    /** Many rights to the same cells, each of which holds one of them, and a way further on from the last cell. */
    private static void reachOfManyCells() {
        Sealhouse x = new Sealhouse();
        x.setQuota(0, 32);
        x.get(0, 20);
        x.get(1, 1);
        x.get(3, 1);
        x.store(1, 3);
        x.put(3, 0);
        for (int i = 0; i < 20; i++) {
            x.step(2, 0, i);
            x.store(2, i == 19 ? 1 : 0);
        }
        x.put(1, 0);
        x.put(2, 0);
        CHECK.yes("reaches", x.reaches(0, 84));
        CHECK.yes("and what is found there", x.reaches(0, 85));
        CHECK.same("8 + 4 + 22, 8, 8 and 8", x.meanReach(), 58 / 4.0);
    }

    private static void reachOfSealsAndPermissions() {
        int[][] cases = {{1, 1, 0}, {2, 1, 0}, {3, 1, 0}, {4, 0, 0}, {5, 1, 1}, {6, 1, 0}, {24, 0, 0}, {127, 1, 1}};
        for (int[] c : cases) {
            Sealhouse x = new Sealhouse();
            x.get(2, 2);
            x.get(3, 2);
            x.store(2, 3);
            x.restrict(0, 2, c[0]);
            x.call(1);
            CHECK.same("reaches with " + c[0], x.reaches(1, 64), c[1] == 1);
            CHECK.same("finds with " + c[0], x.reaches(1, 66), c[2] == 1);
        }
        Sealhouse x = new Sealhouse();
        x.get(2, 2);
        x.get(3, 2);
        x.store(2, 3);
        x.seal(0, 2);
        x.call(1);
        CHECK.no("a sealed right reaches nothing", x.reaches(1, 64));
        x.leave();
        x.seal(4, 3);
        x.store(2, 4);
        x.move(0, 2);
        x.call(1);
        CHECK.yes("reaches", x.reaches(1, 64));
        CHECK.no("a sealed right is found in vain", x.reaches(1, 66));
        x.leave();
        x.restrict(4, 3, 2 + 16);
        x.store(7, 4);
        x.put(3, 0);
        x.put(4, 0);
        CHECK.yes("writing alone reaches, from globals too", x.reaches(0, 66));
    }

    private static void reachOfWaitingCalls() {
        Sealhouse x = new Sealhouse();
        x.call(1);
        x.get(2, 1);
        x.store(6, 2);
        x.put(2, 0);
        x.call(2);
        CHECK.yes("in a waiting call's part", x.reaches(1, 64));
        CHECK.yes("the waiting call's part", x.reaches(1, 36));
        CHECK.yes("the first call's part", x.reaches(0, 32));
        CHECK.no("reaches", x.reaches(2, 64));
        CHECK.no("reaches", x.reaches(2, 36));
        x.call(1);
        CHECK.yes("both parts", x.reaches(1, 36));
        CHECK.yes("both parts", x.reaches(1, 44));
        x.leave();
        CHECK.no("the part behind the depth", x.reaches(1, 44));
        CHECK.yes("hasReached", x.hasReached(1, 44));
        x.leave();
        x.leave();
        CHECK.no("reaches", x.reaches(1, 64));
        CHECK.no("reaches", x.reaches(1, 36));
        CHECK.same("meanReach", x.meanReach(), 9.0);
    }

    private static void reachOfRestingCells() {
        Sealhouse x = new Sealhouse();
        x.get(0, 2);
        x.get(1, 2);
        x.store(0, 1);
        x.store(7, 0);
        x.put(1, 0);
        x.call(1);
        x.store(7, 0);
        x.leave();
        x.free(0);
        CHECK.yes("in a register still", x.reaches(0, 64));
        CHECK.yes("and what is found there", x.reaches(0, 66));
        CHECK.no("not found in a cell", x.reaches(1, 64));
        CHECK.no("nor what is behind it", x.reaches(1, 66));
        x.put(0, 0);
        CHECK.no("not found in a cell", x.reaches(0, 64));
        CHECK.yes("hasReached", x.hasReached(1, 66));
    }

    private static void everReached() {
        Sealhouse x = new Sealhouse();
        x.get(0, 1);
        x.free(0);
        x.sweep();
        CHECK.no("reaches", x.reaches(0, 64));
        CHECK.yes("hasReached", x.hasReached(0, 64));
        x.call(3);
        CHECK.yes("hasReached", x.hasReached(3, 36));
        x.load(0, 0);
        CHECK.no("reaches", x.reaches(3, 36));
        CHECK.yes("hasReached", x.hasReached(3, 36));
        CHECK.no("hasReached", x.hasReached(2, 36));
        CHECK.yes("at first", x.hasReached(2, 16));
    }

    private static void traps() {
        Sealhouse x = new Sealhouse();
        for (char cause : "tspblqmdf".toCharArray()) {
            CHECK.same("traps " + cause, x.traps(cause), 0);
        }
        x.load(0, 0);
        x.store(0, 0);
        x.seal(1, 7);
        x.load(0, 1);
        x.restrict(1, 7, 0);
        x.load(0, 1);
        x.narrow(0, 7, 8, 1);
        x.store(7, 6);
        x.get(0, 32);
        x.free(7);
        String due = "t2s1p1b1l1q1m0d0f1";
        for (int i = 0; i < due.length(); i += 2) {
            CHECK.same("traps " + due.charAt(i), x.traps(due.charAt(i)), due.charAt(i + 1) - '0');
        }
        CHECK.throwsA(ARGUMENT, "traps", () -> x.traps('-'));
        CHECK.throwsA(ARGUMENT, "traps", () -> x.traps('T'));
        CHECK.throwsA(ARGUMENT, "traps", () -> x.traps((char) 0));
        CHECK.throwsA(ARGUMENT, "traps", () -> x.traps('\uffff'));
    }

    private static void figures() {
        Sealhouse x = new Sealhouse();
        CHECK.same("checksum", x.checksum(), 0L);
        CHECK.same("rightShare", x.rightShare(), 0f);
        CHECK.same("meanReach", x.meanReach(), 9.0);
        x.get(0, 16);
        x.step(1, 0, 15);
        x.put(2, -5);
        x.store(1, 2);
        long due = -5;
        for (int i = 79; i < 95; i++) {
            due *= 31;
        }
        CHECK.same("checksum", x.checksum(), due);
        x.store(1, 1);
        due = 79 + 7;
        for (int i = 79; i < 95; i++) {
            due *= 31;
        }
        CHECK.same("checksum", x.checksum(), due);
        CHECK.same("rightShare", x.rightShare(), 1f / 96f);
        for (int i = 0; i < 7; i++) {
            x.step(3, 0, i);
            x.store(3, 0);
        }
        CHECK.same("rightShare", x.rightShare(), 8f / 96f);
        CHECK.same("meanReach", x.meanReach(), 13.0);
        x.narrow(1, 0, 64, 1);
        x.put(3, 0);
        x.put(0, 0);
        x.put(2, 0);
        CHECK.same("64 has a right to all 16", x.meanReach(), 13.0);
        x.store(1, 2);
        CHECK.same("64 alone", x.meanReach(), 9.25);
    }

    private static void sound() {
        Sealhouse x = new Sealhouse();
        CHECK.yes("isSound", x.isSound());
        x.setQuota(0, 32);
        x.get(0, 17);
        x.store(7, 0);
        x.narrow(1, 0, 66, 9);
        x.step(2, 6, 1);
        x.store(2, 6);
        CHECK.yes("isSound", x.isSound());
        x.free(0);
        CHECK.yes("isSound while cells rest", x.isSound());
        x.setQuota(0, 0);
        CHECK.yes("isSound beyond a quota", x.isSound());
        x.sweep();
        CHECK.yes("isSound", x.isSound());
        for (int d = 1; d <= 7; d++) {
            x.move(0, 6);
            x.call(d % 4);
            x.store(0, 6);
            CHECK.yes("isSound", x.isSound());
        }
        for (int d = 7; d > 0; d--) {
            x.leave();
            CHECK.yes("isSound", x.isSound());
        }
    }
}
