import java.lang.reflect.Field;

/**
 * Promise 33 where it does not hold: no run of calls leads there, so that the fields are put wrong behind the back of
 * the machine. It knows the fields of the class, and is to be changed with them.
 */
public final class SoundTest {
    private static final Check CHECK = new Check("SoundTest");

    private SoundTest() {
    }

    private static Object field(Object of, String name) throws ReflectiveOperationException {
        Field f = of.getClass().getDeclaredField(name);
        f.setAccessible(true);
        return f.get(of);
    }

    private static long[] cells(Sealhouse x) throws ReflectiveOperationException {
        return (long[]) field(field(x, "memory"), "words");
    }

    private static long[] registers(Sealhouse x) throws ReflectiveOperationException {
        return (long[]) field(field(field(x, "calls"), "registers"), "words");
    }

    private static long right(int base, int top) {
        return base | 1L << 32 | (long) base << 33 | (long) top << 40 | 127L << 47;
    }

    public static void main(String[] args) throws ReflectiveOperationException {
        bounds();
        reaches();
        counts();
        CHECK.end();
    }

    private static void bounds() throws ReflectiveOperationException {
        int[][] cases = {
            {8, 16, 1}, {8, 17, 0}, {8, 18, 1}, {9, 18, 0}, {9, 19, 0}, {8, 8, 0}, {9, 8, 0}, {0, 96, 1}, {16, 96, 1},
            {15, 95, 0}, {95, 96, 1}, {96, 97, 0}, {88, 98, 0}, {88, 96, 1},
        };
        for (int[] c : cases) {
            Sealhouse x = new Sealhouse();
            cells(x)[95] = right(c[0], c[1]);
            CHECK.same("a cell with " + c[0] + ".." + c[1], x.isSound(), c[2] == 1);
            x = new Sealhouse();
            x.call(1);
            registers(x)[5] = right(c[0], c[1]);
            CHECK.same("a waiting register with " + c[0] + ".." + c[1], x.isSound(), c[2] == 1);
            x = new Sealhouse();
            x.call(1);
            registers(x)[15] = right(c[0], c[1]);
            CHECK.same("a register with " + c[0] + ".." + c[1], x.isSound(), c[2] == 1);
            x = new Sealhouse();
            registers(x)[8] = right(c[0], c[1]);
            CHECK.yes("a register of no call with " + c[0] + ".." + c[1], x.isSound());
        }
    }

    private static void reaches() throws ReflectiveOperationException {
        int[][] cases = {{32, 36, 1}, {36, 40, 1}, {40, 44, 0}, {60, 64, 0}, {64, 65, 1}, {64, 66, 0}, {95, 96, 0}};
        for (int[] c : cases) {
            Sealhouse x = new Sealhouse();
            x.get(1, 1);
            x.call(1);
            registers(x)[12] = right(c[0], c[1]);
            x.put(0, 0);
            CHECK.same("a reach of " + c[0] + ".." + c[1], x.isSound(), c[2] == 1);
        }
    }

    private static void counts() throws ReflectiveOperationException {
        for (int c = 0; c < 4; c++) {
            Sealhouse x = new Sealhouse();
            x.call(c);
            x.get(0, 3);
            x.free(0);
            CHECK.yes("isSound", x.isSound());
            int[] counts = (int[]) field(field(x, "heap"), "counts");
            counts[c]--;
            CHECK.no("one too few", x.isSound());
            counts[c] += 2;
            CHECK.no("one too many", x.isSound());
        }
    }
}
