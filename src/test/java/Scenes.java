/** Machines for the tests, what is seen of them, and what is due of a call that is refused. */
final class Scenes {
    interface Maker {
        Sealhouse make();
    }

    interface Use {
        Object on(Sealhouse x);
    }

    /** A call with one argument that is looked at. */
    interface Told {
        Object on(Sealhouse x, int told);
    }

    static final Class<?> INDEX = IndexOutOfBoundsException.class;
    static final Class<?> ARGUMENT = IllegalArgumentException.class;
    static final int[] NO_REGISTERS = {-1, 8, Integer.MIN_VALUE, Integer.MAX_VALUE};
    static final int[] NO_COMPARTMENTS = {-1, 4, Integer.MIN_VALUE, Integer.MAX_VALUE};
    static final int[] NO_CELLS = {-1, 96, Integer.MIN_VALUE, Integer.MAX_VALUE};
    static final String CAUSES = "tspblqmdf";

    private static final String NEW_ONE = whole(Sealhouse::new);
    private static final String BUSY_ONE = whole(Scenes::busy);

    private Scenes() {
    }

    /** A new machine on which some calls were made. */
    static Sealhouse with(Use... uses) {
        Sealhouse x = new Sealhouse();
        for (Use u : uses) {
            u.on(x);
        }
        return x;
    }

    /** A machine whose register 5 has a right to the whole heap. */
    static Sealhouse wide() {
        return with(x -> x.setQuota(0, 32), x -> x.get(5, 32));
    }

    /** A machine with so many waiting calls, all of the compartment 0. */
    static Sealhouse deep(int depth) {
        Sealhouse x = new Sealhouse();
        for (int d = 0; d < depth; d++) {
            x.call(0);
        }
        return x;
    }

    /** A machine at the depth 3, with cells that rest, sealed rights, rights to the stack, and a trap behind it. */
    static Sealhouse busy() {
        return with(x -> x.load(0, 0), x -> x.setQuota(2, 12), x -> x.get(2, 3), x -> x.get(0, 2), x -> x.store(7, 0),
                x -> x.move(1, 6), x -> x.call(3), x -> x.store(1, 6), x -> x.seal(2, 7), x -> x.store(7, 2),
                x -> x.get(4, 5), x -> x.move(1, 4), x -> x.call(2), x -> x.put(3, -7), x -> x.store(1, 3),
                x -> x.free(0), x -> x.get(2, 9), x -> x.move(1, 0), x -> x.call(2), x -> x.get(2, 2),
                x -> x.step(3, 6, 3), x -> x.narrow(4, 6, 45, 2), x -> x.store(3, 4), x -> x.seal(5, 7));
    }

    /** Base, top, address, permissions and seal of what a register holds, or its number. */
    static String right(Sealhouse x, int register) {
        if (!x.isRight(register)) {
            return "number " + x.value(register);
        }
        return x.ask(register, 'b') + ".." + x.ask(register, 't') + " at " + x.value(register) + " may "
                + x.ask(register, 'p') + " seal " + x.ask(register, 's');
    }

    /** What a register holds at the beginning of the call at a depth. */
    static String atFirst(int register, int compartment, int depth) {
        int base = register == 7 ? 8 * compartment : 32 + 4 * depth;
        int top = base + (register == 7 ? 8 : 4);
        return base + ".." + top + " at " + base + " may " + (register == 7 ? 95 : 111) + " seal 0";
    }

    static String registers(Sealhouse x) {
        StringBuilder seen = new StringBuilder();
        for (int r = 0; r < 8; r++) {
            seen.append(right(x, r)).append("; ");
        }
        return seen.toString();
    }

    /** The numbers of all cells, with a star behind a right. */
    static String cells(Sealhouse x) {
        StringBuilder seen = new StringBuilder();
        for (int i = 0; i < 96; i++) {
            seen.append(x.cell(i)).append(x.hasRight(i) ? "* " : " ");
        }
        return seen.toString();
    }

    static String states(Sealhouse x) {
        StringBuilder seen = new StringBuilder();
        for (int i = 0; i < 96; i++) {
            seen.append(x.stateOf(i));
        }
        return seen.toString();
    }

    /** The cells that a compartment reaches, as "0-7 32-35 ". */
    static String reached(Sealhouse x, int compartment) {
        StringBuilder seen = new StringBuilder();
        for (int i = 0; i < 96; i++) {
            if (x.reaches(compartment, i)) {
                int first = i;
                while (i < 95 && x.reaches(compartment, i + 1)) {
                    i++;
                }
                seen.append(first).append('-').append(i).append(' ');
            }
        }
        return seen.toString();
    }

    static String everReached(Sealhouse x, int compartment) {
        StringBuilder seen = new StringBuilder();
        for (int i = 0; i < 96; i++) {
            seen.append(x.hasReached(compartment, i) ? 'x' : '.');
        }
        return seen.toString();
    }

    /** How often each cause trapped, as "t0 s1 ...". */
    static String traps(Sealhouse x) {
        StringBuilder seen = new StringBuilder();
        for (char cause : CAUSES.toCharArray()) {
            seen.append(cause).append(x.traps(cause)).append(' ');
        }
        return seen.toString();
    }

    private static String calls(Sealhouse x) {
        StringBuilder seen = new StringBuilder();
        for (int d = 0; d <= x.depth(); d++) {
            seen.append(x.runs(d)).append(' ');
        }
        return seen.toString();
    }

    private static String quotas(Sealhouse x) {
        StringBuilder seen = new StringBuilder();
        for (int c = 0; c < 4; c++) {
            seen.append(x.counted(c)).append(" of ").append(x.setQuota(c, 0)).append("; ");
        }
        return seen.toString();
    }

    private static String figures(Sealhouse x) {
        return x.checksum() + " " + x.rightShare() + " " + x.meanReach() + " " + x.isSound();
    }

    /** The registers of all calls, each seen when the calls behind it have returned. */
    private static String unwound(Sealhouse x) {
        StringBuilder seen = new StringBuilder(registers(x));
        while (x.depth() > 0) {
            x.leave();
            seen.append(registers(x));
        }
        return seen.toString();
    }

    /** All that can be asked, of several machines made alike, for one may be used for 512 calls only. */
    static String whole(Maker maker) {
        StringBuilder seen = new StringBuilder();
        seen.append(registers(maker.make())).append('\n').append(cells(maker.make())).append('\n');
        seen.append(states(maker.make())).append('\n').append(calls(maker.make())).append('\n');
        for (int c = 0; c < 4; c++) {
            seen.append(reached(maker.make(), c)).append('\n').append(everReached(maker.make(), c)).append('\n');
        }
        seen.append(traps(maker.make())).append('\n').append(figures(maker.make())).append('\n');
        return seen.append(unwound(maker.make())).append('\n').append(quotas(maker.make())).toString();
    }

    private static Maker refusedOn(Maker maker, Use call) {
        return () -> {
            Sealhouse x = maker.make();
            Check.answer(() -> call.on(x));
            return x;
        };
    }

    /** The call must throw just this class and change nothing, on such a machine. */
    static void refuses(Check due, Maker maker, Class<?> exception, String name, Use call) {
        due.throwsA(exception, name, () -> call.on(maker.make()));
        due.same("the machine behind " + name, whole(refusedOn(maker, call)), whole(maker));
    }

    /** The call must throw just this class and change nothing, on a new machine and on a busy one. */
    static void refuses(Check due, Class<?> exception, String name, Use call) {
        due.throwsA(exception, name, () -> call.on(new Sealhouse()));
        due.same("a new machine behind " + name, whole(refusedOn(Sealhouse::new, call)), NEW_ONE);
        due.throwsA(exception, name, () -> call.on(busy()));
        due.same("a busy machine behind " + name, whole(refusedOn(Scenes::busy, call)), BUSY_ONE);
    }

    static void refusesAll(Check due, Class<?> exception, int[] wrong, String name, Told call) {
        for (int told : wrong) {
            refuses(due, exception, name + " with " + told, x -> call.on(x, told));
        }
    }

    /** The call must answer '-' and put what is due into just the register that is told, for each one. */
    static void getsIt(Check due, Maker maker, String held, Told call) {
        for (int to = 0; to < 8; to++) {
            Sealhouse x = maker.make();
            due.same("into the register " + to, call.on(x, to), '-');
            Sealhouse before = maker.make();
            for (int r = 0; r < 8; r++) {
                due.same("register " + r, right(x, r), r == to ? held : right(before, r));
            }
        }
    }

    /** A machine with the right that is made in the register 2 in this register alone, and 0 in all others. */
    static Sealhouse alone(Use made, int register) {
        Sealhouse x = with(made, y -> y.move(register, 2));
        for (int r = 0; r < 8; r++) {
            if (r != register) {
                x.put(r, 0);
            }
        }
        return x;
    }

    /** The call must answer '-' for each register with the right that is made, all others holding numbers. */
    static void usesIt(Check due, Use made, Told call) {
        for (int from = 0; from < 8; from++) {
            due.same("from the register " + from, call.on(alone(made, from), from), '-');
        }
    }

    /** The call must answer this letter, and only a trap may be counted, and just once. */
    static void answers(Check due, String name, Maker maker, char answer, Use call) {
        Sealhouse x = maker.make();
        int before = answer == '-' ? 0 : x.traps(answer);
        due.same(name, call.on(x), answer);
        int count = 0;
        for (char cause : CAUSES.toCharArray()) {
            count += x.traps(cause);
        }
        if (answer == '-') {
            due.same("traps behind " + name, count, 0);
        } else {
            due.same("traps behind " + name, x.traps(answer), before + 1);
        }
    }
}
