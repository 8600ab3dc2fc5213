import java.util.NoSuchElementException;

/**
 * A machine in which pointers are rights: compartments with globals call one another through a switcher, a heap
 * lets freed cells rest until a sweep, traps end calls, and what each compartment reaches is reported.
 */
public final class Sealhouse {

    private static final int COMPARTMENTS = 4;
    private static final int REGISTERS = 8;
    private static final int DEPTHS = 8;

    private static final int CELLS = 96;
    private static final int GLOBALS_LENGTH = 8;
    private static final int STACK_START = 32;
    private static final int PART_LENGTH = 4;
    private static final int HEAP_START = 64;
    private static final int HEAP_LENGTH = 32;

    private static final int READ = 1;
    private static final int WRITE = 2;
    private static final int LOAD_RIGHTS = 4;
    private static final int STORE_RIGHTS = 8;
    private static final int KEPT_ANYWHERE = 16;
    private static final int STORE_UNKEPT = 32;
    private static final int HAND_ON_WRITING = 64;
    private static final int ALL_PERMISSIONS = 127;

    private static final int FIRST_QUOTA = 16;
    private static final int MOST_STEPS = 99;

    private static final char FINE = '-';
    private static final String CAUSES = "tspblqmdf";
    private static final String QUESTIONS = "btps";

    private final Row memory = new Row(CELLS);
    private final Calls calls = new Calls();
    private final Heap heap = new Heap();
    private final Reach reach = new Reach();
    private final int[] trapCounts = new int[CAUSES.length()];
    /** The cells whose rights are to become numbers: a row made once and used again. */
    private final CellSets doomed = new CellSets(1);

    public Sealhouse() {
        calls.begin(0, Word.number(0), Word.number(0));
    }

    // ---- Operations ----

    public char put(int to, int n) throws IndexOutOfBoundsException {
        needRegister(to);
        return keep(to, Word.number(n));
    }

    public char move(int to, int from) throws IndexOutOfBoundsException {
        needRegister(to);
        needRegister(from);
        return keep(to, calls.held(from));
    }

    public char narrow(int to, int from, int base, int length)
            throws IndexOutOfBoundsException, IllegalArgumentException {
        needRegister(to);
        needRegister(from);
        needRange(base, 0, CELLS - 1);
        needRange(length, 1, CELLS);
        long old = calls.held(from);
        int unit = Bounds.unit(base, base + length);
        int newBase = Bounds.down(base, unit);
        int newTop = Bounds.up(base + length, unit);
        char cause = useTrap(old, 0);
        if (cause == FINE && (newBase < Word.base(old) || newTop > Word.top(old))) {
            cause = 'b';
        }
        if (cause != FINE) {
            return endByTrap(cause);
        }
        return keep(to, Word.right(newBase, newTop, newBase, Word.permissions(old), 0));
    }

    public char restrict(int to, int from, int permissions)
            throws IndexOutOfBoundsException, IllegalArgumentException {
        needRegister(to);
        needRegister(from);
        needRange(permissions, 0, ALL_PERMISSIONS);
        long old = calls.held(from);
        char cause = useTrap(old, 0);
        if (cause != FINE) {
            return endByTrap(cause);
        }
        return keep(to, Word.withPermissions(old, Word.permissions(old) & permissions));
    }

    public char step(int to, int from, int steps) throws IndexOutOfBoundsException, IllegalArgumentException {
        needRegister(to);
        needRegister(from);
        needRange(steps, -MOST_STEPS, MOST_STEPS);
        long old = calls.held(from);
        char cause = useTrap(old, 0);
        if (cause != FINE) {
            return endByTrap(cause);
        }
        return keep(to, Word.withAddress(old, Word.asNumber(old) + steps));
    }

    public char load(int to, int via) throws IndexOutOfBoundsException {
        needRegister(to);
        needRegister(via);
        long right = calls.held(via);
        char cause = accessTrap(right, READ);
        if (cause != FINE) {
            return endByTrap(cause);
        }
        return keep(to, loaded(memory.read(Word.asNumber(right)), Word.permissions(right)));
    }

    public char store(int via, int from) throws IndexOutOfBoundsException {
        needRegister(via);
        needRegister(from);
        long right = calls.held(via);
        long stored = calls.held(from);
        char cause = accessTrap(right, Word.holdsRight(stored) ? WRITE | STORE_RIGHTS : WRITE);
        if (cause == FINE && !mayKeep(right, stored)) {
            cause = 'l';
        }
        if (cause != FINE) {
            return endByTrap(cause);
        }
        memory.write(Word.asNumber(right), stored);
        return finish();
    }

    public char seal(int to, int from) throws IndexOutOfBoundsException {
        needRegister(to);
        needRegister(from);
        long old = calls.held(from);
        char cause = useTrap(old, 0);
        if (cause != FINE) {
            return endByTrap(cause);
        }
        return keep(to, Word.withSeal(old, ownSeal()));
    }

    public char unseal(int to, int from) throws IndexOutOfBoundsException {
        needRegister(to);
        needRegister(from);
        long old = calls.held(from);
        char cause = FINE;
        if (!Word.holdsRight(old)) {
            cause = 't';
        } else if (Word.sealNumber(old) != ownSeal()) {
            cause = 's';
        }
        if (cause != FINE) {
            return endByTrap(cause);
        }
        return keep(to, Word.withSeal(old, 0));
    }

    public char call(int compartment) throws IndexOutOfBoundsException {
        needCompartment(compartment);
        if (calls.isDeepest()) {
            return endByTrap('d');
        }
        calls.goDeeper(compartment, calls.held(0), calls.held(1));
        return finish();
    }

    public char callSealed(int via) throws IndexOutOfBoundsException {
        needRegister(via);
        long right = calls.held(via);
        char cause = FINE;
        if (!Word.holdsRight(right)) {
            cause = 't';
        } else if (Word.sealNumber(right) == 0) {
            cause = 's';
        } else if (calls.isDeepest()) {
            cause = 'd';
        }
        if (cause != FINE) {
            return endByTrap(cause);
        }
        calls.goDeeper(Word.sealNumber(right) - 1, Word.withSeal(right, 0), calls.held(1));
        return finish();
    }

    public int leave() throws IllegalStateException {
        if (calls.presentDepth() == 0) {
            throw new IllegalStateException("the call at the depth 0 does not return");
        }
        long handedBack = calls.held(0);
        if (Word.holdsRight(handedBack) && !Word.permits(handedBack, KEPT_ANYWHERE)) {
            handedBack = Word.number(0);
        }
        endCall(handedBack);
        finish();
        return calls.presentDepth();
    }

    // ---- Heap ----

    public char get(int to, int cells) throws IndexOutOfBoundsException, IllegalArgumentException {
        needRegister(to);
        needRange(cells, 1, HEAP_LENGTH);
        int size = Heap.madeUp(cells);
        int compartment = calls.runningCompartment();
        int base = heap.lowestFree(size);
        if (!heap.quotaAllows(compartment, size)) {
            return endByTrap('q');
        }
        if (base < 0) {
            return endByTrap('m');
        }
        heap.take(base, size, compartment);
        memory.clear(base, base + size);
        return keep(to, Word.right(base, base + size, base, ALL_PERMISSIONS - STORE_UNKEPT, 0));
    }

    public char free(int from) throws IndexOutOfBoundsException {
        needRegister(from);
        long right = calls.held(from);
        char cause = useTrap(right, WRITE);
        if (cause == FINE && !heap.isBlock(Word.base(right), Word.top(right))) {
            cause = 'f';
        }
        if (cause != FINE) {
            return endByTrap(cause);
        }
        heap.layToRest(Word.base(right), Word.top(right));
        return finish();
    }

    public int sweep() {
        doomed.clear(0);
        heap.addResting(doomed);
        int dropped = dropDoomedRights();
        heap.releaseResting();
        finish();
        return dropped;
    }

    public int setQuota(int compartment, int quota) throws IndexOutOfBoundsException, IllegalArgumentException {
        needCompartment(compartment);
        needRange(quota, 0, HEAP_LENGTH);
        return heap.changeQuota(compartment, quota);
    }

    public int counted(int compartment) throws IndexOutOfBoundsException {
        needCompartment(compartment);
        return heap.countFor(compartment);
    }

    public char stateOf(int cell) throws IndexOutOfBoundsException {
        needCell(cell);
        return heap.stateAt(cell);
    }

    // ---- Asked ----

    public int value(int register) throws IndexOutOfBoundsException {
        needRegister(register);
        return Word.asNumber(calls.held(register));
    }

    public boolean isRight(int register) throws IndexOutOfBoundsException {
        needRegister(register);
        return Word.holdsRight(calls.held(register));
    }

    public int ask(int register, char what)
            throws IndexOutOfBoundsException, IllegalArgumentException, NoSuchElementException {
        needRegister(register);
        if (QUESTIONS.indexOf(what) < 0) {
            throw new IllegalArgumentException("no such question");
        }
        long right = calls.held(register);
        if (!Word.holdsRight(right)) {
            throw new NoSuchElementException("the register holds a number");
        }
        if (what == 'b') {
            return Word.base(right);
        }
        if (what == 't') {
            return Word.top(right);
        }
        return what == 'p' ? Word.permissions(right) : Word.sealNumber(right);
    }

    public int cell(int cell) throws IndexOutOfBoundsException {
        needCell(cell);
        return Word.asNumber(memory.read(cell));
    }

    public boolean hasRight(int cell) throws IndexOutOfBoundsException {
        needCell(cell);
        return Word.holdsRight(memory.read(cell));
    }

    public int depth() {
        return calls.presentDepth();
    }

    public int runs(int depth) throws IndexOutOfBoundsException {
        if (depth < 0 || depth > calls.presentDepth()) {
            throw new IndexOutOfBoundsException("no such call");
        }
        return calls.compartmentAt(depth);
    }

    public boolean reaches(int compartment, int cell) throws IndexOutOfBoundsException {
        needCompartment(compartment);
        needCell(cell);
        return reach.isNow(compartment, cell);
    }

    public boolean hasReached(int compartment, int cell) throws IndexOutOfBoundsException {
        needCompartment(compartment);
        needCell(cell);
        return reach.wasEver(compartment, cell);
    }

    public int traps(char cause) throws IllegalArgumentException {
        int index = CAUSES.indexOf(cause);
        if (index < 0 || index >= trapCounts.length) {
            throw new IllegalArgumentException("no such cause");
        }
        return trapCounts[index];
    }

    // ---- Figures ----

    public long checksum() {
        long sum = 0;
        for (int i = 0; i < CELLS; i++) {
            long word = memory.read(i);
            sum = 31 * sum + Word.asNumber(word) + (Word.holdsRight(word) ? 7 : 0);
        }
        return sum;
    }

    public float rightShare() {
        int rights = 0;
        for (int i = 0; i < CELLS; i++) {
            if (Word.holdsRight(memory.read(i))) {
                rights++;
            }
        }
        return (float) rights / (float) CELLS;
    }

    public double meanReach() {
        int sum = 0;
        for (int c = 0; c < COMPARTMENTS; c++) {
            sum += reach.sizeNow(c);
        }
        return (double) sum / (double) COMPARTMENTS;
    }

    public boolean isSound() {
        return reachIsSound()
                && memory.rightsAreSound(CELLS)
                && calls.rightsAreSound()
                && heap.countsAreSound();
    }

    // ---- Arguments ----

    private static void needRegister(int register) {
        if (register < 0 || register >= REGISTERS) {
            throw new IndexOutOfBoundsException("no such register");
        }
    }

    private static void needCompartment(int compartment) {
        if (compartment < 0 || compartment >= COMPARTMENTS) {
            throw new IndexOutOfBoundsException("no such compartment");
        }
    }

    private static void needCell(int cell) {
        if (cell < 0 || cell >= CELLS) {
            throw new IndexOutOfBoundsException("no such cell");
        }
    }

    private static void needRange(int number, int least, int most) {
        if (number < least || number > most) {
            throw new IllegalArgumentException("out of range");
        }
    }

    // ---- What operations have in common ----

    /** The first cause of 't', 's' and 'p' for which a word cannot be used as a right. */
    private static char useTrap(long word, int permissions) {
        if (!Word.holdsRight(word)) {
            return 't';
        }
        if (Word.sealNumber(word) != 0) {
            return 's';
        }
        return Word.permits(word, permissions) ? FINE : 'p';
    }

    /** The first cause of 't', 's', 'p' and 'b' for which the cell at a right's address cannot be used. */
    private static char accessTrap(long word, int permissions) {
        char cause = useTrap(word, permissions);
        if (cause != FINE) {
            return cause;
        }
        int address = Word.asNumber(word);
        return address >= Word.base(word) && address < Word.top(word) ? FINE : 'b';
    }

    private static boolean mayKeep(long via, long stored) {
        return !Word.holdsRight(stored)
                || Word.permits(stored, KEPT_ANYWHERE)
                || Word.permits(via, STORE_UNKEPT);
    }

    /** What a register gets when the word of a cell is loaded through a right with these permissions. */
    private long loaded(long word, int permissions) {
        if (!Word.holdsRight(word)) {
            return word;
        }
        if ((permissions & LOAD_RIGHTS) == 0 || heap.rests(Word.base(word))) {
            return Word.number(Word.asNumber(word));
        }
        if ((permissions & HAND_ON_WRITING) == 0) {
            return Word.withPermissions(word, Word.permissions(word) & ~(WRITE | HAND_ON_WRITING));
        }
        return word;
    }

    private int ownSeal() {
        return calls.runningCompartment() + 1;
    }

    private char keep(int to, long word) {
        calls.hold(to, word);
        reach.note(memory, calls, heap);
        return FINE;
    }

    /** Ends each call that may change what is reached, for what was ever reached is kept. */
    private char finish() {
        reach.note(memory, calls, heap);
        return FINE;
    }

    private char endByTrap(char cause) {
        int index = CAUSES.indexOf(cause);
        if (index >= 0 && index < trapCounts.length) {
            trapCounts[index]++;
        }
        if (calls.presentDepth() == 0) {
            calls.begin(calls.runningCompartment(), Word.number(0), Word.number(0));
        } else {
            endCall(Word.number(-1));
        }
        reach.note(memory, calls, heap);
        return cause;
    }

    private void endCall(long handedBack) {
        int part = Calls.partStart(calls.presentDepth());
        calls.goBack(handedBack);
        memory.clear(part, part + PART_LENGTH);
        doomed.clear(0);
        doomed.addRange(0, part, part + PART_LENGTH);
        dropDoomedRights();
    }

    private int dropDoomedRights() {
        return memory.dropRights(doomed, CELLS) + calls.dropRights(doomed);
    }

    private boolean reachIsSound() {
        int behindDepth = Calls.partStart(calls.presentDepth() + 1);
        for (int c = 0; c < COMPARTMENTS; c++) {
            for (int i = behindDepth; i < CELLS; i++) {
                boolean closed = i < HEAP_START || heap.stateAt(i) == Heap.FREE;
                if (closed && reach.isNow(c, i)) {
                    return false;
                }
            }
        }
        return true;
    }

    /** The rounding of bounds. */
    private static final class Bounds {
        private static final int LARGEST_UNIT = 16;
        private static final int MOST_UNITS = 8;

        private Bounds() {
        }

        /** The least unit with which the rounded length is at most 8 times the unit. */
        static int unit(int base, int top) {
            for (int unit = 1; unit < LARGEST_UNIT; unit *= 2) {
                if (up(top, unit) - down(base, unit) <= MOST_UNITS * unit) {
                    return unit;
                }
            }
            return LARGEST_UNIT;
        }

        // Units are powers of two, so a mask rounds without a division.
        static int down(int number, int unit) {
            return number & -unit;
        }

        static int up(int number, int unit) {
            return (number + unit - 1) & -unit;
        }

        static boolean needNoRounding(int base, int top) {
            int unit = unit(base, top);
            return down(base, unit) == base && up(top, unit) == top;
        }
    }

    /**
     * What a cell or a register holds, packed into a long so that nothing is made when it is copied: the low half is
     * the number or the address, and the high half, 0 for a number, has the rest of a right.
     */
    private static final class Word {
        private static final long LOW_HALF = 0xFFFFFFFFL;
        private static final long RIGHT_MARK = 1L << 32;
        private static final int BASE_SHIFT = 33;
        private static final int TOP_SHIFT = 40;
        private static final int PERMISSIONS_SHIFT = 47;
        private static final int SEAL_SHIFT = 54;
        private static final int SEVEN_BITS = 127;
        private static final int THREE_BITS = 7;
        private static final int SLACK = 8;

        private Word() {
        }

        static long number(int n) {
            return n & LOW_HALF;
        }

        /** A right, or the number that it becomes by an address too far from its bounds. */
        static long right(int base, int top, int address, int permissions, int sealNumber) {
            if (address < base - SLACK || address > top + SLACK) {
                return number(address);
            }
            return number(address)
                    | RIGHT_MARK
                    | (long) (base & SEVEN_BITS) << BASE_SHIFT
                    | (long) (top & SEVEN_BITS) << TOP_SHIFT
                    | (long) (permissions & SEVEN_BITS) << PERMISSIONS_SHIFT
                    | (long) (sealNumber & THREE_BITS) << SEAL_SHIFT;
        }

        static boolean holdsRight(long word) {
            return (word & RIGHT_MARK) != 0;
        }

        static int asNumber(long word) {
            return (int) word;
        }

        static int base(long word) {
            return (int) (word >> BASE_SHIFT) & SEVEN_BITS;
        }

        static int top(long word) {
            return (int) (word >> TOP_SHIFT) & SEVEN_BITS;
        }

        static int permissions(long word) {
            return (int) (word >> PERMISSIONS_SHIFT) & SEVEN_BITS;
        }

        static int sealNumber(long word) {
            return (int) (word >> SEAL_SHIFT) & THREE_BITS;
        }

        static boolean permits(long word, int wanted) {
            return (word >> PERMISSIONS_SHIFT & wanted) == wanted;
        }

        static long withAddress(long word, int address) {
            return right(base(word), top(word), address, permissions(word), sealNumber(word));
        }

        static long withPermissions(long word, int permissions) {
            return right(base(word), top(word), asNumber(word), permissions, sealNumber(word));
        }

        static long withSeal(long word, int sealNumber) {
            return right(base(word), top(word), asNumber(word), permissions(word), sealNumber);
        }
    }

    /** A row of words: the cells of the memory, or the registers of all calls. */
    private static final class Row {
        private final long[] words;

        /** Lengths are constants of this file, all above 0. */
        Row(int length) {
            words = new long[length > 0 ? length : 0];
        }

        long read(int index) {
            return index >= 0 && index < words.length ? words[index] : Word.number(0);
        }

        void write(int index, long word) {
            if (index >= 0 && index < words.length) {
                words[index] = word;
            }
        }

        void clear(int from, int to) {
            for (int i = from; i < to; i++) {
                write(i, Word.number(0));
            }
        }

        /** Makes the rights with such bases among the first words numbers, and returns how many there were. */
        int dropRights(CellSets doomed, int count) {
            int dropped = 0;
            for (int i = 0; i < count && i < words.length; i++) {
                if (Word.holdsRight(words[i]) && doomed.has(0, Word.base(words[i]))) {
                    words[i] = Word.number(Word.asNumber(words[i]));
                    dropped++;
                }
            }
            return dropped;
        }

        boolean rightsAreSound(int count) {
            for (int i = 0; i < count && i < words.length; i++) {
                if (Word.holdsRight(words[i]) && !boundsAreSound(Word.base(words[i]), Word.top(words[i]))) {
                    return false;
                }
            }
            return true;
        }

        private static boolean boundsAreSound(int base, int top) {
            return base >= 0 && base < top && top <= CELLS && Bounds.needNoRounding(base, top);
        }
    }

    /** The call that runs and those that wait, with their compartments and registers. */
    private static final class Calls {
        private static final int PART_REGISTER = 6;
        private static final int GLOBALS_REGISTER = 7;

        private final int[] compartments = new int[DEPTHS];
        private final Row registers = new Row(DEPTHS * REGISTERS);
        private int present = 0;

        static int partStart(int depth) {
            return STACK_START + depth * PART_LENGTH;
        }

        int presentDepth() {
            return present;
        }

        boolean isDeepest() {
            return present >= DEPTHS - 1;
        }

        int compartmentAt(int depth) {
            return depth >= 0 && depth < compartments.length ? compartments[depth] : 0;
        }

        int runningCompartment() {
            return compartmentAt(present);
        }

        long registerAt(int depth, int register) {
            return registers.read(depth * REGISTERS + register);
        }

        long held(int register) {
            return registerAt(present, register);
        }

        void hold(int register, long word) {
            registers.write(present * REGISTERS + register, word);
        }

        /** Begins a call of the compartment at the present depth. */
        void begin(int compartment, long first, long second) {
            if (present < 0 || present >= compartments.length) {
                return;
            }
            compartments[present] = compartment;
            registers.clear(present * REGISTERS, (present + 1) * REGISTERS);
            hold(0, first);
            hold(1, second);
            int part = partStart(present);
            hold(PART_REGISTER,
                    Word.right(part, part + PART_LENGTH, part, ALL_PERMISSIONS - KEPT_ANYWHERE, 0));
            int globals = compartment * GLOBALS_LENGTH;
            hold(GLOBALS_REGISTER,
                    Word.right(globals, globals + GLOBALS_LENGTH, globals, ALL_PERMISSIONS - STORE_UNKEPT, 0));
        }

        void goDeeper(int compartment, long first, long second) {
            if (!isDeepest()) {
                present++;
                begin(compartment, first, second);
            }
        }

        void goBack(long handedBack) {
            if (present > 0) {
                present--;
                hold(0, handedBack);
            }
        }

        int dropRights(CellSets doomed) {
            return registers.dropRights(doomed, (present + 1) * REGISTERS);
        }

        boolean rightsAreSound() {
            return registers.rightsAreSound((present + 1) * REGISTERS);
        }
    }

    /** Which cells of the heap are free, got or rest, and for whose quota they count. */
    private static final class Heap {
        static final char FREE = 'f';
        private static final char GOT = 'g';
        private static final char RESTS = 'r';
        private static final char OUTSIDE = '-';

        private final char[] states = new char[HEAP_LENGTH];
        private final int[] owners = new int[HEAP_LENGTH];
        /** At the first cell of what was got at once, the top of it; elsewhere 0. */
        private final int[] blockTops = new int[HEAP_LENGTH];
        private final int[] quotas = new int[COMPARTMENTS];
        private final int[] counts = new int[COMPARTMENTS];

        Heap() {
            for (int i = 0; i < states.length; i++) {
                states[i] = FREE;
            }
            for (int c = 0; c < quotas.length; c++) {
                quotas[c] = FIRST_QUOTA;
            }
        }

        static int madeUp(int cells) {
            if (cells > 16) {
                return Bounds.up(cells, 4);
            }
            return cells > 8 ? Bounds.up(cells, 2) : cells;
        }

        char stateAt(int cell) {
            int index = cell - HEAP_START;
            return index >= 0 && index < states.length ? states[index] : OUTSIDE;
        }

        boolean rests(int cell) {
            return stateAt(cell) == RESTS;
        }

        int countFor(int compartment) {
            return compartment >= 0 && compartment < counts.length ? counts[compartment] : 0;
        }

        int changeQuota(int compartment, int quota) {
            if (compartment < 0 || compartment >= quotas.length) {
                return 0;
            }
            int before = quotas[compartment];
            quotas[compartment] = quota;
            return before;
        }

        boolean quotaAllows(int compartment, int size) {
            return compartment >= 0 && compartment < quotas.length
                    && countFor(compartment) + size <= quotas[compartment];
        }

        /** The lowest base of so many free cells whose bounds need no rounding, or -1. */
        int lowestFree(int size) {
            for (int base = HEAP_START; base + size <= HEAP_START + HEAP_LENGTH; base++) {
                if (Bounds.needNoRounding(base, base + size) && allFree(base, base + size)) {
                    return base;
                }
            }
            return -1;
        }

        private boolean allFree(int base, int top) {
            for (int i = base; i < top; i++) {
                if (stateAt(i) != FREE) {
                    return false;
                }
            }
            return true;
        }

        void take(int base, int size, int compartment) {
            int first = base - HEAP_START;
            if (first < 0 || first + size > states.length || compartment < 0 || compartment >= counts.length) {
                return;
            }
            for (int i = first; i < first + size && i < states.length && i < owners.length; i++) {
                states[i] = GOT;
                owners[i] = compartment;
            }
            if (first < blockTops.length) {
                blockTops[first] = base + size;
            }
            counts[compartment] += size;
        }

        /** Whether these are just the bounds of cells that were got at once and not freed yet. */
        boolean isBlock(int base, int top) {
            int first = base - HEAP_START;
            return first >= 0 && first < states.length && first < blockTops.length
                    && states[first] == GOT && blockTops[first] == top;
        }

        void layToRest(int base, int top) {
            for (int i = base - HEAP_START; i < top - HEAP_START; i++) {
                if (i >= 0 && i < states.length && i < blockTops.length) {
                    states[i] = RESTS;
                    blockTops[i] = 0;
                }
            }
        }

        void addResting(CellSets doomed) {
            for (int i = HEAP_START; i < HEAP_START + HEAP_LENGTH; i++) {
                if (rests(i)) {
                    doomed.add(0, i);
                }
            }
        }

        void releaseResting() {
            for (int i = 0; i < states.length && i < owners.length; i++) {
                if (states[i] == RESTS) {
                    states[i] = FREE;
                    giveBack(owners[i]);
                }
            }
        }

        private void giveBack(int compartment) {
            if (compartment >= 0 && compartment < counts.length) {
                counts[compartment]--;
            }
        }

        boolean countsAreSound() {
            for (int c = 0; c < counts.length; c++) {
                int owned = 0;
                for (int i = 0; i < states.length && i < owners.length; i++) {
                    if (states[i] != FREE && owners[i] == c) {
                        owned++;
                    }
                }
                if (owned != counts[c]) {
                    return false;
                }
            }
            return true;
        }
    }

    /** Sets of cells, each of two longs with a bit for each cell, so that many cells are added at once. */
    private static final class CellSets {
        private static final int BITS = 64;
        private static final int BIT_SHIFT = 6;

        private final long[] halves;

        /** Counts are constants of this file, all above 0. */
        CellSets(int count) {
            halves = new long[count > 0 ? 2 * count : 0];
        }

        void clear(int set) {
            putHalf(2 * set, 0);
            putHalf(2 * set + 1, 0);
        }

        void add(int set, int cell) {
            int index = 2 * set + (cell >> BIT_SHIFT);
            if (index >= 0 && index < halves.length) {
                halves[index] |= 1L << cell;
            }
        }

        void addRange(int set, int base, int top) {
            putHalf(2 * set, half(2 * set) | bits(base, top));
            putHalf(2 * set + 1, half(2 * set + 1) | bits(base - BITS, top - BITS));
        }

        /** Adds what the same set has in another row of sets. */
        void addAll(int set, CellSets others) {
            putHalf(2 * set, half(2 * set) | others.half(2 * set));
            putHalf(2 * set + 1, half(2 * set + 1) | others.half(2 * set + 1));
        }

        boolean has(int set, int cell) {
            int index = 2 * set + (cell >> BIT_SHIFT);
            return index >= 0 && index < halves.length && (halves[index] >>> cell & 1) != 0;
        }

        boolean hasRange(int set, int base, int top) {
            return (bits(base, top) & ~half(2 * set)) == 0
                    && (bits(base - BITS, top - BITS) & ~half(2 * set + 1)) == 0;
        }

        int size(int set) {
            return Long.bitCount(half(2 * set)) + Long.bitCount(half(2 * set + 1));
        }

        private long half(int index) {
            return index >= 0 && index < halves.length ? halves[index] : 0;
        }

        private void putHalf(int index, long bits) {
            if (index >= 0 && index < halves.length) {
                halves[index] = bits;
            }
        }

        /** The bits from one number on and ahead of another one, as far as they lie in one long. */
        private static long bits(int from, int to) {
            int first = from < 0 ? 0 : from;
            int last = to > BITS ? BITS : to;
            return first < last ? -1L >>> BITS - (last - first) << first : 0;
        }
    }

    /** Which cells each compartment reaches, and has ever reached. */
    private static final class Reach {
        private final CellSets now = new CellSets(COMPARTMENTS);
        private final CellSets ever = new CellSets(COMPARTMENTS);
        /** The cells in which the compartment that is looked at finds rights, each queued once. */
        private final CellSets searched = new CellSets(1);
        private final int[] queue = new int[CELLS];
        private int queued = 0;

        /** In a new machine each compartment has its globals, and the compartment 0 the first part of the stack. */
        Reach() {
            own(0, Calls.partStart(0), Calls.partStart(0) + PART_LENGTH);
            for (int c = 0; c < COMPARTMENTS; c++) {
                own(c, c * GLOBALS_LENGTH, (c + 1) * GLOBALS_LENGTH);
                ever.addAll(c, now);
            }
        }

        boolean isNow(int compartment, int cell) {
            return now.has(compartment, cell);
        }

        boolean wasEver(int compartment, int cell) {
            return ever.has(compartment, cell);
        }

        int sizeNow(int compartment) {
            return now.size(compartment);
        }

        void note(Row memory, Calls calls, Heap heap) {
            for (int c = 0; c < COMPARTMENTS; c++) {
                now.clear(c);
                searched.clear(0);
                queued = 0;
                startFrom(c, calls);
                for (int i = 0; i < queued && i < queue.length; i++) {
                    long word = memory.read(queue[i]);
                    if (Word.holdsRight(word) && !heap.rests(Word.base(word))) {
                        follow(c, word);
                    }
                }
                ever.addAll(c, now);
            }
        }

        private void startFrom(int compartment, Calls calls) {
            int globals = compartment * GLOBALS_LENGTH;
            own(compartment, globals, globals + GLOBALS_LENGTH);
            for (int d = 0; d <= calls.presentDepth() && d < DEPTHS; d++) {
                if (calls.compartmentAt(d) == compartment) {
                    int part = Calls.partStart(d);
                    own(compartment, part, part + PART_LENGTH);
                    for (int r = 0; r < REGISTERS; r++) {
                        follow(compartment, calls.registerAt(d, r));
                    }
                }
            }
        }

        private void own(int compartment, int base, int top) {
            now.addRange(compartment, base, top);
            search(base, top);
        }

        private void follow(int compartment, long word) {
            if (!Word.holdsRight(word) || Word.sealNumber(word) != 0) {
                return;
            }
            if (Word.permits(word, READ) || Word.permits(word, WRITE)) {
                now.addRange(compartment, Word.base(word), Word.top(word));
            }
            if (Word.permits(word, READ | LOAD_RIGHTS) && !searched.hasRange(0, Word.base(word), Word.top(word))) {
                search(Word.base(word), Word.top(word));
            }
        }

        private void search(int base, int top) {
            for (int i = base; i < top; i++) {
                if (!searched.has(0, i) && queued >= 0 && queued < queue.length) {
                    searched.add(0, i);
                    queue[queued] = i;
                    queued++;
                }
            }
        }
    }
}
