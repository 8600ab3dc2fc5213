import java.io.IOException;
import java.lang.reflect.Field;

/**
 * Promise 33 where it does not hold: no run of calls leads there, so that the fields are put wrong behind the back of
 * the machine. It knows the fields of the class, and is to be changed with them.
 */
public final class SoundTest {
    private SoundTest() {
    }

    public static void main(String[] args) throws IOException {
        Sentences.run(SoundTest.class);
    }

    private static Object field(Object of, String name) throws ReflectiveOperationException {
        Field f = of.getClass().getDeclaredField(name);
        f.setAccessible(true);
        return f.get(of);
    }

    private static long[] cells(Sealhouse x) throws ReflectiveOperationException {
        return (long[]) field(field(x, "memory"), "words");
    }

    private static long[] registers(Sealhouse x) throws ReflectiveOperationException {
        return (long[]) field(field(field(x, "calls"), "registers"), "words");
    }

    private static long right(int base, int top) {
        return base | 1L << 32 | (long) base << 33 | (long) top << 40 | 127L << 47;
    }

    @Says(in = "Promise 33",
            words = "each right in a register or a cell lies within the memory, with bounds that need no rounding;")
    static void bounds(Check due) throws ReflectiveOperationException {
        int[][] cases = {
            {8, 16, 1}, {8, 17, 0}, {8, 18, 1}, {9, 18, 0}, {9, 19, 0}, {8, 8, 0}, {9, 8, 0}, {0, 96, 1}, {16, 96, 1},
            {15, 95, 0}, {95, 96, 1}, {96, 97, 0}, {88, 98, 0}, {88, 96, 1}, {0, 64, 1}, {0, 68, 0}, {0, 72, 0},
            {0, 80, 1}, {8, 72, 1}, {8, 88, 0}, {4, 36, 1}, {4, 40, 0}, {2, 18, 1}, {2, 20, 0},
        };
        for (int[] c : cases) {
            for (int cell = 0; cell < 96; cell += 5) {
                Sealhouse x = new Sealhouse();
                cells(x)[cell] = right(c[0], c[1]);
                due.same("a cell with " + c[0] + ".." + c[1], x.isSound(), c[2] == 1);
            }
            for (int r = 0; r < 16; r++) {
                Sealhouse x = new Sealhouse();
                x.call(1);
                registers(x)[r] = right(c[0], c[1]);
                due.same("register " + r + " of two calls with " + c[0] + ".." + c[1], x.isSound(), c[2] == 1);
            }
            Sealhouse x = new Sealhouse();
            registers(x)[8] = right(c[0], c[1]);
            due.yes("a register of no call with " + c[0] + ".." + c[1], x.isSound());
        }
    }

    /** Whether it is sound that the call at the depth 1, behind a get of the cell 64, has a right to these cells. */
    private static void reaches(Check due, int base, int top, boolean sound) throws ReflectiveOperationException {
        for (int c = 0; c < 4; c++) {
            Sealhouse x = new Sealhouse();
            x.get(1, 1);
            x.call(c);
            registers(x)[12] = right(base, top);
            x.put(0, 0);
            due.same("a reach of " + base + ".." + top + " by " + c, x.isSound(), sound);
        }
    }

    @Says(in = "Promise 33", words = "no compartment reaches a free cell")
    static void freeCells(Check due) throws ReflectiveOperationException {
        reaches(due, 64, 65, true);
        reaches(due, 64, 66, false);
        reaches(due, 65, 66, false);
        reaches(due, 95, 96, false);
    }

    @Says(in = "Promise 33", words = "or a part of the stack behind the depth;")
    static void parts(Check due) throws ReflectiveOperationException {
        reaches(due, 32, 36, true);
        reaches(due, 36, 40, true);
        reaches(due, 39, 40, true);
        reaches(due, 40, 41, false);
        reaches(due, 63, 64, false);
    }

    @Says(in = "Promise 33", words = "and what was got and what rests counts for quotas.")
    static void counts(Check due) throws ReflectiveOperationException {
        for (int c = 0; c < 4; c++) {
            for (int rests = 0; rests < 2; rests++) {
                Sealhouse x = new Sealhouse();
                x.call(c);
                x.get(0, 3);
                if (rests == 1) {
                    x.free(0);
                }
                due.yes("isSound", x.isSound());
                int[] counts = (int[]) field(field(x, "heap"), "counts");
                counts[c]--;
                due.no("one too few", x.isSound());
                counts[c] += 2;
                due.no("one too many", x.isSound());
            }
        }
    }
}
