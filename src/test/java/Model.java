import java.util.ArrayList;
import java.util.Arrays;
import java.util.HashMap;
import java.util.List;
import java.util.Map;
import java.util.NoSuchElementException;
import java.util.Set;
import java.util.TreeSet;

/** The document once more, told with objects and sets and without any thrift, for ModelTest to compare with. */
final class Model {
    /** A number (top 0) or a right. */
    record Value(int base, int top, int address, int permissions, int seal) {
        static Value of(int n) {
            return new Value(0, 0, n, 0, 0);
        }

        static Value right(int base, int top, int address, int permissions, int seal) {
            return address < base - 8 || address > top + 8 ? of(address)
                    : new Value(base, top, address, permissions, seal);
        }

        boolean isRight() {
            return top > 0;
        }

        Value asNumber() {
            return of(address);
        }

        boolean may(int permission) {
            return (permissions / permission) % 2 == 1;
        }
    }

    /** A call with its registers. */
    static final class Frame {
        final int compartment;
        final Value[] registers = new Value[8];

        Frame(int compartment, int depth, Value first, Value second) {
            this.compartment = compartment;
            Arrays.fill(registers, Value.of(0));
            registers[0] = first;
            registers[1] = second;
            registers[6] = Value.right(32 + 4 * depth, 36 + 4 * depth, 32 + 4 * depth, 127 - 16, 0);
            registers[7] = Value.right(8 * compartment, 8 * compartment + 8, 8 * compartment, 127 - 32, 0);
        }
    }

    /** What was got at once. */
    static final class Block {
        int base;
        int top;
        int owner;
        boolean rests;
    }

    static final class Trap extends RuntimeException {
        private static final long serialVersionUID = 1L;
        final char cause;

        Trap(char cause) {
            this.cause = cause;
        }
    }

    final Value[] cells = new Value[96];
    final List<Frame> frames = new ArrayList<>();
    final List<Block> blocks = new ArrayList<>();
    final int[] quotas = {16, 16, 16, 16};
    final Map<Character, Integer> traps = new HashMap<>();
    final List<Set<Integer>> ever = new ArrayList<>();

    Model() {
        Arrays.fill(cells, Value.of(0));
        frames.add(new Frame(0, 0, Value.of(0), Value.of(0)));
        for (int c = 0; c < 4; c++) {
            ever.add(new TreeSet<>());
        }
        noteReach();
    }

    Frame now() {
        return frames.get(frames.size() - 1);
    }

    private Value[] registers() {
        return now().registers;
    }

    private static void index(int i, int count) {
        if (i < 0 || i >= count) {
            throw new IndexOutOfBoundsException();
        }
    }

    private static void range(int n, int least, int most) {
        if (n < least || n > most) {
            throw new IllegalArgumentException();
        }
    }

    private void trapIf(boolean applies, char cause) {
        if (applies) {
            throw new Trap(cause);
        }
    }

    private void use(Value v) {
        trapIf(!v.isRight(), 't');
        trapIf(v.seal != 0, 's');
    }

    private char operation(Runnable work) {
        char answer = '-';
        try {
            work.run();
        } catch (Trap t) {
            answer = t.cause;
            traps.merge(t.cause, 1, Integer::sum);
            if (frames.size() == 1) {
                frames.set(0, new Frame(0, 0, Value.of(0), Value.of(0)));
            } else {
                end(Value.of(-1));
            }
        }
        noteReach();
        return answer;
    }

    private void end(Value handedBack) {
        int part = 32 + 4 * (frames.size() - 1);
        frames.remove(frames.size() - 1);
        registers()[0] = handedBack;
        for (int i = part; i < part + 4; i++) {
            cells[i] = Value.of(0);
        }
        Set<Integer> bases = new TreeSet<>(List.of(part, part + 1, part + 2, part + 3));
        dropRights(bases);
    }

    private int dropRights(Set<Integer> bases) {
        int dropped = dropRights(cells, bases);
        for (Frame f : frames) {
            dropped += dropRights(f.registers, bases);
        }
        return dropped;
    }

    private static int dropRights(Value[] row, Set<Integer> bases) {
        int dropped = 0;
        for (int i = 0; i < row.length; i++) {
            if (row[i].isRight() && bases.contains(row[i].base)) {
                row[i] = row[i].asNumber();
                dropped++;
            }
        }
        return dropped;
    }

    static int[] rounded(int base, int top) {
        for (int unit : new int[] {1, 2, 4, 8, 16}) {
            int low = base;
            while (low % unit != 0) {
                low--;
            }
            int high = top;
            while (high % unit != 0) {
                high++;
            }
            if (high - low <= 8 * unit) {
                return new int[] {low, high};
            }
        }
        throw new AssertionError();
    }

    char put(int to, int n) {
        index(to, 8);
        return operation(() -> registers()[to] = Value.of(n));
    }

    char move(int to, int from) {
        index(to, 8);
        index(from, 8);
        return operation(() -> registers()[to] = registers()[from]);
    }

    char narrow(int to, int from, int base, int length) {
        index(to, 8);
        index(from, 8);
        range(base, 0, 95);
        range(length, 1, 96);
        return operation(() -> {
            Value v = registers()[from];
            use(v);
            int[] bounds = rounded(base, base + length);
            trapIf(bounds[0] < v.base || bounds[1] > v.top, 'b');
            registers()[to] = Value.right(bounds[0], bounds[1], bounds[0], v.permissions, 0);
        });
    }

    char restrict(int to, int from, int permissions) {
        index(to, 8);
        index(from, 8);
        range(permissions, 0, 127);
        return operation(() -> {
            Value v = registers()[from];
            use(v);
            int both = 0;
            for (int p = 1; p <= 64; p *= 2) {
                if (v.may(p) && (permissions / p) % 2 == 1) {
                    both += p;
                }
            }
            registers()[to] = Value.right(v.base, v.top, v.address, both, 0);
        });
    }

    char step(int to, int from, int steps) {
        index(to, 8);
        index(from, 8);
        range(steps, -99, 99);
        return operation(() -> {
            Value v = registers()[from];
            use(v);
            registers()[to] = Value.right(v.base, v.top, v.address + steps, v.permissions, 0);
        });
    }

    char load(int to, int via) {
        index(to, 8);
        index(via, 8);
        return operation(() -> {
            Value v = registers()[via];
            use(v);
            trapIf(!v.may(1), 'p');
            trapIf(v.address < v.base || v.address >= v.top, 'b');
            Value held = cells[v.address];
            if (held.isRight() && (!v.may(4) || rests(held.base))) {
                held = held.asNumber();
            }
            if (held.isRight() && !v.may(64)) {
                int left = held.permissions - (held.may(2) ? 2 : 0) - (held.may(64) ? 64 : 0);
                held = Value.right(held.base, held.top, held.address, left, held.seal);
            }
            registers()[to] = held;
        });
    }

    char store(int via, int from) {
        index(via, 8);
        index(from, 8);
        return operation(() -> {
            Value v = registers()[via];
            Value stored = registers()[from];
            use(v);
            trapIf(!v.may(2) || stored.isRight() && !v.may(8), 'p');
            trapIf(v.address < v.base || v.address >= v.top, 'b');
            trapIf(stored.isRight() && !stored.may(16) && !v.may(32), 'l');
            cells[v.address] = stored;
        });
    }

    char seal(int to, int from) {
        index(to, 8);
        index(from, 8);
        return operation(() -> {
            Value v = registers()[from];
            use(v);
            registers()[to] = Value.right(v.base, v.top, v.address, v.permissions, now().compartment + 1);
        });
    }

    char unseal(int to, int from) {
        index(to, 8);
        index(from, 8);
        return operation(() -> {
            Value v = registers()[from];
            trapIf(!v.isRight(), 't');
            trapIf(v.seal != now().compartment + 1, 's');
            registers()[to] = Value.right(v.base, v.top, v.address, v.permissions, 0);
        });
    }

    char call(int compartment) {
        index(compartment, 4);
        return operation(() -> {
            trapIf(frames.size() == 8, 'd');
            frames.add(new Frame(compartment, frames.size(), registers()[0], registers()[1]));
        });
    }

    char callSealed(int via) {
        index(via, 8);
        return operation(() -> {
            Value v = registers()[via];
            trapIf(!v.isRight(), 't');
            trapIf(v.seal == 0, 's');
            trapIf(frames.size() == 8, 'd');
            Value open = Value.right(v.base, v.top, v.address, v.permissions, 0);
            frames.add(new Frame(v.seal - 1, frames.size(), open, registers()[1]));
        });
    }

    int leave() {
        if (frames.size() == 1) {
            throw new IllegalStateException();
        }
        Value back = registers()[0];
        end(back.isRight() && !back.may(16) ? Value.of(0) : back);
        noteReach();
        return frames.size() - 1;
    }

    private Block blockAt(int cell) {
        for (Block b : blocks) {
            if (cell >= b.base && cell < b.top) {
                return b;
            }
        }
        return null;
    }

    private boolean rests(int cell) {
        Block b = blockAt(cell);
        return b != null && b.rests;
    }

    char get(int to, int cells) {
        index(to, 8);
        range(cells, 1, 32);
        return operation(() -> {
            int n = cells;
            while (n > 8 && n % 2 != 0 || n > 16 && n % 4 != 0) {
                n++;
            }
            trapIf(counted(now().compartment) + n > quotas[now().compartment], 'q');
            int base = 64;
            while (base + n <= 96 && !fits(base, base + n)) {
                base++;
            }
            trapIf(base + n > 96, 'm');
            Block b = new Block();
            b.base = base;
            b.top = base + n;
            b.owner = now().compartment;
            blocks.add(b);
            Arrays.fill(this.cells, base, base + n, Value.of(0));
            registers()[to] = Value.right(base, base + n, base, 127 - 32, 0);
        });
    }

    private boolean fits(int base, int top) {
        for (int i = base; i < top; i++) {
            if (blockAt(i) != null) {
                return false;
            }
        }
        return Arrays.equals(rounded(base, top), new int[] {base, top});
    }

    char free(int from) {
        index(from, 8);
        return operation(() -> {
            Value v = registers()[from];
            use(v);
            trapIf(!v.may(2), 'p');
            Block b = blockAt(v.base);
            trapIf(b == null || b.rests || b.base != v.base || b.top != v.top, 'f');
            b.rests = true;
        });
    }

    int sweep() {
        Set<Integer> bases = new TreeSet<>();
        for (int i = 64; i < 96; i++) {
            if (rests(i)) {
                bases.add(i);
            }
        }
        int dropped = dropRights(bases);
        blocks.removeIf(b -> b.rests);
        noteReach();
        return dropped;
    }

    int setQuota(int compartment, int quota) {
        index(compartment, 4);
        range(quota, 0, 32);
        int before = quotas[compartment];
        quotas[compartment] = quota;
        return before;
    }

    int counted(int compartment) {
        index(compartment, 4);
        int sum = 0;
        for (Block b : blocks) {
            sum += b.owner == compartment ? b.top - b.base : 0;
        }
        return sum;
    }

    char stateOf(int cell) {
        index(cell, 96);
        Block b = blockAt(cell);
        return cell < 64 ? '-' : b == null ? 'f' : b.rests ? 'r' : 'g';
    }

    int value(int register) {
        index(register, 8);
        return registers()[register].address;
    }

    boolean isRight(int register) {
        index(register, 8);
        return registers()[register].isRight();
    }

    int ask(int register, char what) {
        index(register, 8);
        if (what != 'b' && what != 't' && what != 'p' && what != 's') {
            throw new IllegalArgumentException();
        }
        Value v = registers()[register];
        if (!v.isRight()) {
            throw new NoSuchElementException();
        }
        return what == 'b' ? v.base : what == 't' ? v.top : what == 'p' ? v.permissions : v.seal;
    }

    int cell(int cell) {
        index(cell, 96);
        return cells[cell].address;
    }

    boolean hasRight(int cell) {
        index(cell, 96);
        return cells[cell].isRight();
    }

    int depth() {
        return frames.size() - 1;
    }

    int runs(int depth) {
        index(depth, frames.size());
        return frames.get(depth).compartment;
    }

    /** Adds to the reach of a compartment until nothing is added any more. */
    private Set<Integer> reachOf(int compartment) {
        Set<Integer> reached = new TreeSet<>();
        Set<Integer> searched = new TreeSet<>();
        addTo(reached, searched, Value.right(8 * compartment, 8 * compartment + 8, 8 * compartment, 5, 0));
        for (int d = 0; d < frames.size(); d++) {
            if (frames.get(d).compartment == compartment) {
                addTo(reached, searched, Value.right(32 + 4 * d, 36 + 4 * d, 32 + 4 * d, 5, 0));
                for (Value v : frames.get(d).registers) {
                    addTo(reached, searched, v);
                }
            }
        }
        int before = -1;
        while (before != reached.size() + searched.size()) {
            before = reached.size() + searched.size();
            for (int cell : new TreeSet<>(searched)) {
                if (!rests(cells[cell].base)) {
                    addTo(reached, searched, cells[cell]);
                }
            }
        }
        return reached;
    }

    private static void addTo(Set<Integer> reached, Set<Integer> searched, Value v) {
        for (int i = v.base; i < v.top; i++) {
            if (v.seal == 0 && (v.may(1) || v.may(2))) {
                reached.add(i);
            }
            if (v.seal == 0 && v.may(1) && v.may(4)) {
                searched.add(i);
            }
        }
    }

    private void noteReach() {
        for (int c = 0; c < 4; c++) {
            ever.get(c).addAll(reachOf(c));
        }
    }

    boolean reaches(int compartment, int cell) {
        index(compartment, 4);
        index(cell, 96);
        return reachOf(compartment).contains(cell);
    }

    boolean hasReached(int compartment, int cell) {
        index(compartment, 4);
        index(cell, 96);
        return ever.get(compartment).contains(cell);
    }

    int traps(char cause) {
        range("tspblqmdf".indexOf(cause), 0, 8);
        return traps.getOrDefault(cause, 0);
    }

    long checksum() {
        long sum = 0;
        for (Value v : cells) {
            sum = 31 * sum + v.address + (v.isRight() ? 7 : 0);
        }
        return sum;
    }

    float rightShare() {
        float rights = 0;
        for (Value v : cells) {
            rights += v.isRight() ? 1 : 0;
        }
        return rights / 96;
    }

    double meanReach() {
        double sum = 0;
        for (int c = 0; c < 4; c++) {
            sum += reachOf(c).size();
        }
        return sum / 4;
    }

    /** No run of calls can make the machine unsound. */
    boolean isSound() {
        return true;
    }
}
