/**
 * A 64-bit processor of two levels: integer instructions, loads and stores, flags, a walk through
 * tables in memory for each access, and exceptions that are taken with all that tells why.
 */
public final class GuardCore {
    public static final int NONE = -1;

    private static final int MOST_STEPS = 2000;
    private static final int NO_SUCH_LOOK = -100;

    private final Memory memory;
    private final State state;
    private final Walk walk;
    private final Processor processor;

    public GuardCore() {
        memory = new Memory();
        state = new State();
        walk = new Walk(memory, state);
        processor = new Processor(memory, state, walk);
    }

    public boolean poke(int address, int word) {
        if (!isWordPlace(address)) {
            return false;
        }
        memory.write(address, 4, word);
        return true;
    }

    public int peek(int address) {
        return isWordPlace(address) ? (int) memory.read(address, 4) : 0;
    }

    public boolean set(int part, int high, int low) {
        return state.putPart(part, (long) high << 32 | low & 0xFFFFFFFFL);
    }

    public int low(int part) {
        return (int) state.part(part);
    }

    public int high(int part) {
        return (int) (state.part(part) >>> 32);
    }

    public void interrupt(boolean on) {
        state.putInterrupt(on);
    }

    public int step(int n) {
        if (n < 0 || n > MOST_STEPS) {
            return NONE;
        }
        int before = state.taken();
        for (int i = 0; i < n; i++) {
            state.begin();
            if (processor.fetches() && !processor.performs()) {
                state.raise(State.UNKNOWN, 0);
            }
            state.finish();
        }
        return state.taken() - before;
    }

    public int look(int high, int low, int what, int level) {
        if (what < Walk.LOAD || what > Walk.EXECUTE || level < 0 || level > 1) {
            return NO_SUCH_LOOK;
        }
        return walk.find((long) high << 32 | low & 0xFFFFFFFFL, 1, what, level);
    }

    private boolean isWordPlace(int address) {
        return (address & 3) == 0 && memory.holds(address, 4);
    }

    /** Parts of instructions, and numbers of 64 bits (wide) or 32 bits with 0s above. */
    private static final class Bits {
        static final long LOW_HALF = 0xFFFFFFFFL;

        static boolean isOne(int word, int place) {
            return (word >>> place & 1) != 0;
        }

        /** So many bits of a word from a place on; fewer than 32. */
        static int field(int word, int place, int count) {
            return word >>> place & (1 << count) - 1;
        }

        static long signedField(int word, int place, int count) {
            return word << 32 - place - count >> 32 - count;
        }

        static long narrow(long value, boolean wide) {
            return wide ? value : value & LOW_HALF;
        }

        static int width(boolean wide) {
            return wide ? 64 : 32;
        }

        static long ones(int count) {
            return count >= 64 ? -1L : (1L << count) - 1;
        }

        /** A narrow value moved by less than its width: 0 left, 1 right, 2 right with its sign, 3 turned right. */
        static long moved(long value, int kind, int count, boolean wide) {
            switch (kind) {
                case 0:
                    return narrow(value << count, wide);
                case 1:
                    return value >>> count;
                case 2:
                    return wide ? value >> count : ((int) value >> count) & LOW_HALF;
                default:
                    return wide ? Long.rotateRight(value, count)
                            : Integer.rotateRight((int) value, count) & LOW_HALF;
            }
        }
    }

    /**
     * The bytes 0 .. 65535. Every access is at a multiple of its size, so that none crosses a cell of
     * eight bytes: cells keep an object eight times smaller than bytes would.
     */
    private static final class Memory {
        private static final int BYTES = 65536;

        private final long[] cells;

        Memory() {
            cells = new long[BYTES / 8];
        }

        boolean holds(long place, int size) {
            return place >= 0 && place <= BYTES - size;
        }

        long read(long place, int size) {
            if (!holds(place, size)) {
                return 0;
            }
            int shift = (int) (place & 7) * 8;
            return cells[(int) (place >>> 3)] >>> shift & Bits.ones(size * 8);
        }

        void write(long place, int size, long value) {
            if (!holds(place, size)) {
                return;
            }
            int cell = (int) (place >>> 3);
            int shift = (int) (place & 7) * 8;
            long kept = ~(Bits.ones(size * 8) << shift);
            cells[cell] = cells[cell] & kept | (value & Bits.ones(size * 8)) << shift;
        }
    }

    /** All but memory, in the numbering of the face, and the way into an exception. */
    private static final class State {
        static final int UNKNOWN = 0;

        static final int LINK = 30;
        /** As a register's number ZERO or SP; as a part's number the stack pointer of level 0. */
        static final int ZERO = 31;
        static final int STACKS = 31;
        static final int PC = 33;
        static final int SCTLR = 34;
        static final int TTBR = 35;
        static final int VBAR = 36;
        static final int ELR = 37;
        static final int SPSR = 38;
        static final int ESR = 39;
        static final int FAR = 40;
        static final int TPIDR = 41;
        static final int FLAGS = 42;
        static final int LEVEL = 43;
        static final int SPSEL = 44;
        static final int MASK = 45;
        private static final int PARTS = 46;

        private final long[] parts;
        private boolean interrupted;
        private long next;
        private int taken;

        State() {
            parts = new long[PARTS];
            parts[LEVEL] = 1;
            parts[SPSEL] = 1;
            parts[MASK] = 1;
        }

        long part(int part) {
            return part >= 0 && part < PARTS ? parts[part] : 0;
        }

        boolean putPart(int part, long value) {
            if (part < 0 || part >= PARTS) {
                return false;
            }
            if (part == FLAGS) {
                parts[part] = value & 15;
            } else if (part > FLAGS) {
                parts[part] = value & 1;
            } else {
                parts[part] = value;
            }
            return true;
        }

        long register(int number) {
            return number == ZERO ? 0 : part(number);
        }

        void putRegister(int number, long value) {
            if (number != ZERO) {
                putPart(number, value);
            }
        }

        long registerOrStack(int number) {
            return part(number == ZERO ? stack() : number);
        }

        void putRegisterOrStack(int number, long value) {
            putPart(number == ZERO ? stack() : number, value);
        }

        /** Level 0 has the first stack pointer whatever SPSEL says. */
        private int stack() {
            return STACKS + (int) (parts[LEVEL] & parts[SPSEL]);
        }

        int level() {
            return (int) parts[LEVEL];
        }

        long pc() {
            return parts[PC];
        }

        boolean meets(int condition) {
            boolean n = (parts[FLAGS] & 8) != 0;
            boolean z = (parts[FLAGS] & 4) != 0;
            boolean c = (parts[FLAGS] & 2) != 0;
            boolean v = (parts[FLAGS] & 1) != 0;
            boolean contrary = (condition & 1) != 0;
            switch (condition >>> 1) {
                case 0:
                    return z != contrary;
                case 1:
                    return c != contrary;
                case 2:
                    return n != contrary;
                case 3:
                    return v != contrary;
                case 4:
                    return (c && !z) != contrary;
                case 5:
                    return (n == v) != contrary;
                case 6:
                    return (n == v && !z) != contrary;
                default:
                    return true;
            }
        }

        void putInterrupt(boolean on) {
            interrupted = on;
        }

        boolean isInterruptDue() {
            return interrupted && parts[MASK] == 0;
        }

        int taken() {
            return taken;
        }

        void begin() {
            next = parts[PC] + 4;
        }

        void goTo(long address) {
            next = address;
        }

        void finish() {
            parts[PC] = next;
        }

        void takeInterrupt() {
            enter(parts[PC], 128);
        }

        void raise(int kind, int what) {
            tell(kind, what);
            enter(parts[PC], 0);
        }

        void raiseAt(long address, int kind, int what) {
            parts[FAR] = address;
            tell(kind, what);
            enter(parts[PC], 0);
        }

        /** An instruction that asks for its exception is not done again when that comes back. */
        void raiseBehind(int kind, int what) {
            tell(kind, what);
            enter(parts[PC] + 4, 0);
        }

        private void tell(int kind, int what) {
            parts[ESR] = ((long) kind << 26) + (1L << 25) + what;
        }

        private void enter(long back, int offset) {
            long from = parts[LEVEL] == 0 ? 0 : 4 + parts[SPSEL];
            long vector = parts[LEVEL] == 0 ? 1024 : 512 * parts[SPSEL];
            parts[SPSR] = parts[FLAGS] << 28 | parts[MASK] << 7 | from;
            parts[ELR] = back;
            parts[LEVEL] = 1;
            parts[SPSEL] = 1;
            parts[MASK] = 1;
            next = (parts[VBAR] & ~2047L) + vector + offset;
            taken++;
        }
    }

    /** What an address is in memory. A fault is told as -1 - its WHAT, which no place can be. */
    private static final class Walk {
        static final int LOAD = 0;
        static final int STORE = 1;
        static final int EXECUTE = 2;

        private static final int TRANSLATION = 4;
        private static final int ACCESS = 8;
        private static final int PERMISSION = 12;
        private static final int EXTERNAL = 16;
        private static final int LOOK = 20;
        private static final int ALIGNMENT = 33;

        /** The lowest two bits of what a look finds. */
        private static final int BLOCK = 1;
        private static final int TABLE = 3;
        private static final int PAGE = 3;

        private static final long FRAME = 0x0000FFFFFFFFF000L;

        private final Memory memory;
        private final State state;

        Walk(Memory memory, State state) {
            this.memory = memory;
            this.state = state;
        }

        int find(long address, int size, int what, int level) {
            if ((address & size - 1) != 0) {
                return -1 - ALIGNMENT;
            }
            long place = address;
            if ((state.part(State.SCTLR) & 1) != 0) {
                place = translated(address, what, level);
                if (place < 0) {
                    return (int) place;
                }
            }
            return memory.holds(place, size) ? (int) place : -1 - EXTERNAL;
        }

        private long translated(long address, int what, int level) {
            if (address >>> 30 != 0) {
                return -1 - (TRANSLATION + 2);
            }
            long table = state.part(State.TTBR) & FRAME;
            for (int depth = 2; depth <= 3; depth++) {
                int inside = depth == 2 ? 21 : 12;
                long place = table + 8 * (address >>> inside & 511);
                if (!memory.holds(place, 8)) {
                    return -1 - (LOOK + depth);
                }
                long entry = memory.read(place, 8);
                if ((entry & 3) == (depth == 2 ? BLOCK : PAGE)) {
                    int fault = fault(entry, what, level);
                    long offset = (1L << inside) - 1;
                    return fault == 0 ? entry & FRAME & ~offset | address & offset : -1 - (fault + depth);
                }
                if ((entry & 3) != TABLE) {
                    return -1 - (TRANSLATION + depth);
                }
                table = entry & FRAME;
            }
            // only for the compiler: at level 3 each entry has ended the walk above
            return -1 - (TRANSLATION + 3);
        }

        /** Why a block or page may not be used so; 0 when it may. */
        private static int fault(long entry, int what, int level) {
            if ((entry >>> 10 & 1) == 0) {
                return ACCESS;
            }
            return permits(entry, what, level) ? 0 : PERMISSION;
        }

        private static boolean permits(long entry, int what, int level) {
            boolean shared = (entry >>> 6 & 1) != 0;
            boolean writable = (entry >>> 7 & 1) == 0;
            if (what == EXECUTE) {
                // what level 0 can write must not run at level 1
                return level == 0 ? (entry >>> 54 & 1) == 0
                        : (entry >>> 53 & 1) == 0 && !(shared && writable);
            }
            return (level == 1 || shared) && (what == LOAD || writable);
        }
    }

    /** Fetches an instruction and hands it to what does its kind. */
    private static final class Processor {
        private static final int FETCH_FAULT = 32;
        private static final int CROOKED_PC = 34;

        private final Memory memory;
        private final State state;
        private final Walk walk;
        private final Numbers numbers;
        private final Registers registers;
        private final Accesses accesses;
        private final Branches branches;
        private final Control control;
        private int word;

        Processor(Memory memory, State state, Walk walk) {
            this.memory = memory;
            this.state = state;
            this.walk = walk;
            Sums sums = new Sums(state);
            numbers = new Numbers(state, sums);
            registers = new Registers(state, sums);
            accesses = new Accesses(memory, state, walk);
            branches = new Branches(state);
            control = new Control(state);
        }

        /** False when an interrupt or an exception came instead of an instruction. */
        boolean fetches() {
            if (state.isInterruptDue()) {
                state.takeInterrupt();
                return false;
            }
            long pc = state.pc();
            if ((pc & 3) != 0) {
                state.raiseAt(pc, CROOKED_PC, 0);
                return false;
            }
            int place = walk.find(pc, 4, Walk.EXECUTE, state.level());
            if (place < 0) {
                state.raiseAt(pc, FETCH_FAULT + state.level(), -1 - place);
                return false;
            }
            word = (int) memory.read(place, 4);
            return true;
        }

        /** False for an instruction that is none; then nothing was done. */
        boolean performs() {
            switch (word >>> 24 & 31) {
                case 8:
                case 9:
                    return accesses.pair(word);
                case 10:
                    return registers.logic(word);
                case 11:
                    return registers.sum(word);
                case 16:
                    return numbers.place(word);
                case 17:
                    return numbers.number(word);
                case 18:
                    return Bits.isOne(word, 23) ? numbers.move(word) : numbers.masks(word);
                case 19:
                    return Bits.isOne(word, 23) ? numbers.twice(word) : numbers.bits(word);
                case 20:
                case 21:
                case 22:
                case 23:
                    return performsBranch();
                case 24:
                    return Bits.isOne(word, 29) ? accesses.single(word) : accesses.near(word);
                case 25:
                    return Bits.isOne(word, 29) && accesses.single(word);
                case 26:
                    return performsRegisters();
                case 27:
                    return registers.times(word) || registers.upperTimes(word);
                default:
                    return false;
            }
        }

        private boolean performsBranch() {
            switch (word >>> 29 & 3) {
                case 0:
                    return branches.branch(word);
                case 1:
                    return Bits.isOne(word, 25) ? branches.bit(word) : branches.zero(word);
                case 2:
                    return performsControl();
                default:
                    return false;
            }
        }

        private boolean performsControl() {
            switch (word >>> 24) {
                case 0x54:
                    return branches.when(word);
                case 0xD4:
                    return control.call(word);
                case 0xD5:
                    return control.nothing(word) || control.system(word) || control.setting(word);
                case 0xD6:
                    return branches.toRegister(word) || control.back(word);
                default:
                    return false;
            }
        }

        private boolean performsRegisters() {
            switch (word >>> 21 & 0xFF) {
                case 0xD2:
                    return registers.compare(word);
                case 0xD4:
                    return registers.choose(word);
                case 0xD6:
                    return Bits.isOne(word, 30) ? registers.one(word) : registers.two(word);
                default:
                    return false;
            }
        }
    }

    /** Sums and the flags of results. */
    private static final class Sums {
        private final State state;

        Sums(State state) {
            this.state = state;
        }

        /** A difference is the sum with the other's bits inverted and 1, so that its carry is that sum's. */
        long sum(long left, long right, boolean minus, boolean wide, boolean flags) {
            long first = Bits.narrow(left, wide);
            long second = Bits.narrow(minus ? ~right : right, wide);
            long result = Bits.narrow(first + second + (minus ? 1 : 0), wide);
            if (flags) {
                int top = Bits.width(wide) - 1;
                long carry = (first & second | (first | second) & ~result) >>> top & 1;
                long overflow = ((first ^ result) & (second ^ result)) >>> top & 1;
                state.putPart(State.FLAGS, signAndZero(result, wide) | carry << 1 | overflow);
            }
            return result;
        }

        /** 0 and, 1 or, 2 exclusive or, 3 and with flags. */
        long logic(long left, long right, int kind, boolean wide) {
            long result = left & right;
            if (kind == 1) {
                result = left | right;
            } else if (kind == 2) {
                result = left ^ right;
            }
            result = Bits.narrow(result, wide);
            if (kind == 3) {
                state.putPart(State.FLAGS, signAndZero(result, wide));
            }
            return result;
        }

        private static long signAndZero(long result, boolean wide) {
            return (result >>> Bits.width(wide) - 1 & 1) << 3 | (result == 0 ? 4 : 0);
        }
    }

    /** Instructions on a register and numbers that stand in the instruction. */
    private static final class Numbers {
        private final State state;
        private final Sums sums;

        Numbers(State state, Sums sums) {
            this.state = state;
            this.sums = sums;
        }

        boolean number(int word) {
            if (Bits.isOne(word, 23)) {
                return false;
            }
            boolean flags = Bits.isOne(word, 29);
            long left = state.registerOrStack(Bits.field(word, 5, 5));
            long right = (long) Bits.field(word, 10, 12) << (Bits.isOne(word, 22) ? 12 : 0);
            long result = sums.sum(left, right, Bits.isOne(word, 30), word < 0, flags);
            if (flags) {
                state.putRegister(Bits.field(word, 0, 5), result);
            } else {
                state.putRegisterOrStack(Bits.field(word, 0, 5), result);
            }
            return true;
        }

        boolean masks(int word) {
            long mask = mask(word);
            if (mask == 0) {
                return false;
            }
            int kind = Bits.field(word, 29, 2);
            long left = state.register(Bits.field(word, 5, 5));
            long result = sums.logic(left, mask, kind, word < 0);
            if (kind == 3) {
                state.putRegister(Bits.field(word, 0, 5), result);
            } else {
                state.putRegisterOrStack(Bits.field(word, 0, 5), result);
            }
            return true;
        }

        /** The mask of an instruction; 0, which no mask is, when there is none. */
        private static long mask(int word) {
            int lengths = Bits.field(word, 22, 1) << 6 | ~(word >>> 10) & 63;
            if (lengths < 2 || Bits.isOne(word, 22) && word >= 0) {
                return 0;
            }
            int size = Integer.highestOneBit(lengths);
            int count = Bits.field(word, 10, 6) & size - 1;
            if (count == size - 1) {
                return 0;
            }
            int turn = Bits.field(word, 16, 6) & size - 1;
            long run = Bits.ones(count + 1);
            long mask = (run >>> turn | run << size - turn) & Bits.ones(size);
            for (int filled = 2; filled < 64; filled *= 2) {
                if (filled >= size) {
                    mask |= mask << filled;
                }
            }
            return mask;
        }

        boolean move(int word) {
            boolean wide = word < 0;
            int kind = Bits.field(word, 29, 2);
            int place = 16 * Bits.field(word, 21, 2);
            if (kind == 1 || place >= Bits.width(wide)) {
                return false;
            }
            int d = Bits.field(word, 0, 5);
            long value = (long) Bits.field(word, 5, 16) << place;
            if (kind == 0) {
                value = ~value;
            } else if (kind == 3) {
                value |= state.register(d) & ~(0xFFFFL << place);
            }
            state.putRegister(d, Bits.narrow(value, wide));
            return true;
        }

        boolean place(int word) {
            long number = Bits.signedField(word, 5, 19) << 2 | Bits.field(word, 29, 2);
            long result = word < 0 ? (state.pc() & ~4095L) + (number << 12) : state.pc() + number;
            state.putRegister(Bits.field(word, 0, 5), result);
            return true;
        }

        boolean bits(int word) {
            boolean wide = word < 0;
            int width = Bits.width(wide);
            int kind = Bits.field(word, 29, 2);
            int from = Bits.field(word, 16, 6);
            int last = Bits.field(word, 10, 6);
            if (kind == 3 || Bits.isOne(word, 22) != wide || from >= width || last >= width) {
                return false;
            }
            int d = Bits.field(word, 0, 5);
            long source = state.register(Bits.field(word, 5, 5));
            boolean down = last >= from;
            int count = down ? last - from + 1 : last + 1;
            int place = down ? 0 : width - from;
            long run = source >>> (down ? from : 0) & Bits.ones(count);
            long result = run << place;
            if (kind == 1) {
                result |= state.register(d) & ~(Bits.ones(count) << place);
            } else if (kind == 0 && (source >>> last & 1) != 0) {
                result |= ~Bits.ones(place + count);
            }
            state.putRegister(d, Bits.narrow(result, wide));
            return true;
        }

        boolean twice(int word) {
            boolean wide = word < 0;
            int from = Bits.field(word, 10, 6);
            if (Bits.field(word, 29, 2) != 0 || Bits.isOne(word, 21) || Bits.isOne(word, 22) != wide
                    || from >= Bits.width(wide)) {
                return false;
            }
            long above = state.register(Bits.field(word, 5, 5));
            long below = Bits.narrow(state.register(Bits.field(word, 16, 5)), wide);
            long result = below >>> from;
            if (from > 0) {
                result |= above << Bits.width(wide) - from;
            }
            state.putRegister(Bits.field(word, 0, 5), Bits.narrow(result, wide));
            return true;
        }
    }

    /** Instructions on registers alone. */
    private static final class Registers {
        private static final long ODD_BYTES = 0x00FF00FF00FF00FFL;
        private static final long ODD_PAIRS = 0x0000FFFF0000FFFFL;

        private final State state;
        private final Sums sums;

        Registers(State state, Sums sums) {
            this.state = state;
            this.sums = sums;
        }

        private long left(int word) {
            return Bits.narrow(state.register(Bits.field(word, 5, 5)), word < 0);
        }

        private long right(int word) {
            return Bits.narrow(state.register(Bits.field(word, 16, 5)), word < 0);
        }

        private boolean put(int word, long result) {
            state.putRegister(Bits.field(word, 0, 5), Bits.narrow(result, word < 0));
            return true;
        }

        boolean sum(int word) {
            boolean wide = word < 0;
            int kind = Bits.field(word, 22, 2);
            int count = Bits.field(word, 10, 6);
            if (Bits.isOne(word, 21) || kind == 3 || count >= Bits.width(wide)) {
                return false;
            }
            long right = Bits.moved(right(word), kind, count, wide);
            boolean flags = Bits.isOne(word, 29);
            return put(word, sums.sum(left(word), right, Bits.isOne(word, 30), wide, flags));
        }

        boolean logic(int word) {
            boolean wide = word < 0;
            int count = Bits.field(word, 10, 6);
            if (count >= Bits.width(wide)) {
                return false;
            }
            long right = Bits.moved(right(word), Bits.field(word, 22, 2), count, wide);
            if (Bits.isOne(word, 21)) {
                right = ~right;
            }
            return put(word, sums.logic(left(word), right, Bits.field(word, 29, 2), wide));
        }

        boolean choose(int word) {
            if (Bits.isOne(word, 29) || Bits.isOne(word, 11)) {
                return false;
            }
            if (state.meets(Bits.field(word, 12, 4))) {
                return put(word, left(word));
            }
            long other = right(word);
            if (Bits.isOne(word, 30)) {
                other = ~other;
            }
            return put(word, other + Bits.field(word, 10, 1));
        }

        boolean compare(int word) {
            if (!Bits.isOne(word, 29) || Bits.isOne(word, 10) || Bits.isOne(word, 4)) {
                return false;
            }
            if (state.meets(Bits.field(word, 12, 4))) {
                long right = Bits.isOne(word, 11) ? Bits.field(word, 16, 5) : right(word);
                sums.sum(left(word), right, Bits.isOne(word, 30), word < 0, true);
            } else {
                state.putPart(State.FLAGS, Bits.field(word, 0, 4));
            }
            return true;
        }

        boolean times(int word) {
            if (Bits.field(word, 21, 10) != 0xD8) {
                return false;
            }
            long product = left(word) * right(word);
            long start = state.register(Bits.field(word, 10, 5));
            return put(word, Bits.isOne(word, 15) ? start - product : start + product);
        }

        boolean upperTimes(int word) {
            boolean unsigned = Bits.isOne(word, 23);
            if (word >>> 24 != 0x9B || Bits.field(word, 21, 2) != 2 || Bits.field(word, 10, 6) != 31) {
                return false;
            }
            long left = left(word);
            long right = right(word);
            long result = Math.multiplyHigh(left, right);
            if (unsigned) {
                // a number whose sign was taken for 2 to the power 63 lacks the other one above
                result += (left < 0 ? right : 0) + (right < 0 ? left : 0);
            }
            return put(word, result);
        }

        boolean two(int word) {
            boolean wide = word < 0;
            int kind = Bits.field(word, 10, 6);
            if (Bits.isOne(word, 29)) {
                return false;
            }
            if (kind == 2) {
                return put(word, quotient(left(word), right(word)));
            }
            if (kind == 3) {
                return put(word, signedQuotient(left(word), right(word), wide));
            }
            if (kind < 8 || kind > 11) {
                return false;
            }
            int count = (int) right(word) & Bits.width(wide) - 1;
            return put(word, Bits.moved(left(word), kind - 8, count, wide));
        }

        private static long quotient(long left, long right) {
            if (right == 0) {
                return 0;
            }
            if (right < 0) {
                return Long.compareUnsigned(left, right) < 0 ? 0 : 1;
            }
            // half the number is never negative; its quotient, doubled, lacks 1 at most
            long estimate = (left >>> 1) / right << 1;
            long rest = left - estimate * right;
            return Long.compareUnsigned(rest, right) < 0 ? estimate : estimate + 1;
        }

        private static long signedQuotient(long left, long right, boolean wide) {
            long number = wide ? left : (int) left;
            long divisor = wide ? right : (int) right;
            return divisor == 0 ? 0 : number / divisor;
        }

        boolean one(int word) {
            boolean wide = word < 0;
            int kind = Bits.field(word, 10, 6);
            if (Bits.isOne(word, 29) || Bits.field(word, 16, 5) != 0) {
                return false;
            }
            long value = left(word);
            switch (kind) {
                case 0:
                    return put(word, Long.reverse(value) >>> 64 - Bits.width(wide));
                case 1:
                    return put(word, bytesOfPairs(value));
                case 2:
                    return put(word, bytesOfFours(value));
                case 3:
                    return wide && put(word, Long.reverseBytes(value));
                case 4:
                    return put(word, zerosAbove(value, wide));
                case 5:
                    return put(word, likeTheHighest(value, wide));
                default:
                    return false;
            }
        }

        private static long bytesOfPairs(long value) {
            return (value & ODD_BYTES) << 8 | value >>> 8 & ODD_BYTES;
        }

        private static long bytesOfFours(long value) {
            long pairs = bytesOfPairs(value);
            return (pairs & ODD_PAIRS) << 16 | pairs >>> 16 & ODD_PAIRS;
        }

        private static long zerosAbove(long value, boolean wide) {
            return Long.numberOfLeadingZeros(value) - (64 - Bits.width(wide));
        }

        private static long likeTheHighest(long value, boolean wide) {
            long signed = wide ? value : (int) value;
            return zerosAbove(Bits.narrow(signed ^ signed >> 1, wide), wide) - 1;
        }
    }

    /** Loads and stores. */
    private static final class Accesses {
        private static final int DATA_FAULT = 36;
        private static final int CROOKED_STACK = 38;
        private static final int OF_STORE = 64;

        /** How a base changes: not at all, behind the access, ahead of it. */
        private static final int STAYS = 0;
        private static final int BEHIND = 1;
        private static final int AHEAD = 3;

        private final Memory memory;
        private final State state;
        private final Walk walk;

        Accesses(Memory memory, State state, Walk walk) {
            this.memory = memory;
            this.state = state;
            this.walk = walk;
        }

        boolean single(int word) {
            int scale = word >>> 30;
            int kind = Bits.field(word, 22, 2);
            if (!isSingle(word) || scale + kind > 4) {
                return false;
            }
            int n = Bits.field(word, 5, 5);
            if (stackIsCrooked(n)) {
                state.raise(CROOKED_STACK, 0);
                return true;
            }
            int change = change(word);
            long base = state.registerOrStack(n);
            long moved = base + offset(word);
            long address = change == BEHIND ? base : moved;
            int t = Bits.field(word, 0, 5);
            int size = 1 << scale;
            int place = find(address, size, kind != 0);
            if (place < 0) {
                return true;
            }
            // the base changes in between: a store has it as it was, a load may write over it
            if (kind == 0) {
                memory.write(place, size, state.register(t));
            }
            if (change != STAYS) {
                state.putRegisterOrStack(n, moved);
            }
            if (kind != 0) {
                state.putRegister(t, extended(memory.read(place, size), size, kind));
            }
            return true;
        }

        /** Whether the bits that tell how the address is made are those of a load or store. */
        private static boolean isSingle(int word) {
            if (Bits.isOne(word, 24)) {
                return true;
            }
            int form = Bits.field(word, 10, 2);
            // of a register's bits only the middle one must be 1: 2, 3, 6, 7
            return Bits.isOne(word, 21) ? form == 2 && Bits.isOne(word, 14) : form != 2;
        }

        private static int change(int word) {
            return Bits.isOne(word, 24) || Bits.isOne(word, 21) ? STAYS : Bits.field(word, 10, 2);
        }

        private long offset(int word) {
            int scale = word >>> 30;
            if (Bits.isOne(word, 24)) {
                return (long) Bits.field(word, 10, 12) << scale;
            }
            if (!Bits.isOne(word, 21)) {
                return Bits.signedField(word, 12, 9);
            }
            long value = state.register(Bits.field(word, 16, 5));
            if (!Bits.isOne(word, 13)) {
                value = Bits.isOne(word, 15) ? (int) value : value & Bits.LOW_HALF;
            }
            return value << (Bits.isOne(word, 12) ? scale : 0);
        }

        /** 1 as it is, 2 with its sign to 64 bits, 3 to 32 bits. */
        private static long extended(long value, int size, int kind) {
            if (kind == 1) {
                return value;
            }
            int spare = 64 - 8 * size;
            return Bits.narrow(value << spare >> spare, kind == 2);
        }

        boolean pair(int word) {
            int scale = word >>> 30;
            int change = Bits.field(word, 23, 2);
            boolean load = Bits.isOne(word, 22);
            if (!Bits.isOne(word, 29) || scale == 3 || change == 0 || scale == 1 && !load) {
                return false;
            }
            int n = Bits.field(word, 5, 5);
            if (stackIsCrooked(n)) {
                state.raise(CROOKED_STACK, 0);
                return true;
            }
            int size = scale == 2 ? 8 : 4;
            long base = state.registerOrStack(n);
            long moved = base + Bits.signedField(word, 15, 7) * size;
            long address = change == BEHIND ? base : moved;
            int lower = find(address, size, load);
            if (lower < 0) {
                return true;
            }
            int upper = find(address + size, size, load);
            if (upper < 0) {
                return true;
            }
            if (!load) {
                memory.write(lower, size, state.register(Bits.field(word, 0, 5)));
                memory.write(upper, size, state.register(Bits.field(word, 10, 5)));
            }
            if (change == BEHIND || change == AHEAD) {
                state.putRegisterOrStack(n, moved);
            }
            if (load) {
                int kind = scale == 1 ? 2 : 1;
                state.putRegister(Bits.field(word, 0, 5), extended(memory.read(lower, size), size, kind));
                state.putRegister(Bits.field(word, 10, 5), extended(memory.read(upper, size), size, kind));
            }
            return true;
        }

        boolean near(int word) {
            if (word < 0) {
                return false;
            }
            int size = Bits.isOne(word, 30) ? 8 : 4;
            int place = find(state.pc() + 4 * Bits.signedField(word, 5, 19), size, true);
            if (place >= 0) {
                state.putRegister(Bits.field(word, 0, 5), memory.read(place, size));
            }
            return true;
        }

        private boolean stackIsCrooked(int base) {
            return base == State.ZERO && (state.registerOrStack(base) & 15) != 0;
        }

        /** The place of an access; below 0 when it faults, and the exception has been taken then. */
        private int find(long address, int size, boolean load) {
            int place = walk.find(address, size, load ? Walk.LOAD : Walk.STORE, state.level());
            if (place < 0) {
                int what = -1 - place + (load ? 0 : OF_STORE);
                state.raiseAt(address, DATA_FAULT + state.level(), what);
            }
            return place;
        }
    }

    /** Branches. */
    private static final class Branches {
        private final State state;

        Branches(State state) {
            this.state = state;
        }

        boolean branch(int word) {
            if (word < 0) {
                state.putRegister(State.LINK, state.pc() + 4);
            }
            return jump(true, Bits.signedField(word, 0, 26));
        }

        boolean when(int word) {
            if (Bits.isOne(word, 4)) {
                return false;
            }
            return jump(state.meets(Bits.field(word, 0, 4)), Bits.signedField(word, 5, 19));
        }

        boolean zero(int word) {
            boolean zero = Bits.narrow(state.register(Bits.field(word, 0, 5)), word < 0) == 0;
            return jump(zero != Bits.isOne(word, 24), Bits.signedField(word, 5, 19));
        }

        boolean bit(int word) {
            int place = Bits.field(word, 31, 1) << 5 | Bits.field(word, 19, 5);
            boolean zero = (state.register(Bits.field(word, 0, 5)) >>> place & 1) == 0;
            return jump(zero != Bits.isOne(word, 24), Bits.signedField(word, 5, 14));
        }

        private boolean jump(boolean taken, long words) {
            if (taken) {
                state.goTo(state.pc() + 4 * words);
            }
            return true;
        }

        boolean toRegister(int word) {
            int kind = Bits.field(word, 21, 2);
            if (word >>> 23 != 0x1AC || kind == 3 || Bits.field(word, 10, 11) != 0x7C0
                    || Bits.field(word, 0, 5) != 0) {
                return false;
            }
            state.goTo(state.register(Bits.field(word, 5, 5)));
            if (kind == 1) {
                state.putRegister(State.LINK, state.pc() + 4);
            }
            return true;
        }
    }

    /** Calls of level 1 and back, and the system's parts. */
    private static final class Control {
        private static final int BAD_RETURN = 14;
        private static final int SVC = 21;
        private static final int SYSTEM = 24;
        private static final int BRK = 60;
        private static final int BACK = 0xD69F03E0;

        private final State state;

        Control(State state) {
            this.state = state;
        }

        boolean call(int word) {
            int top = word >>> 21;
            int end = Bits.field(word, 0, 5);
            int number = Bits.field(word, 5, 16);
            if (top == 0x6A0 && end == 1) {
                state.raiseBehind(SVC, number);
                return true;
            }
            if (top == 0x6A1 && end == 0) {
                state.raise(BRK, number);
                return true;
            }
            return false;
        }

        boolean nothing(int word) {
            int top = word >>> 12;
            return (top == 0xD5032 || top == 0xD5033) && Bits.field(word, 0, 5) == 31;
        }

        boolean back(int word) {
            if (word != BACK || state.level() == 0) {
                return false;
            }
            long saved = state.part(State.SPSR);
            int from = (int) saved & 15;
            if (from != 0 && from != 4 && from != 5) {
                state.raise(BAD_RETURN, 0);
                return true;
            }
            state.goTo(state.part(State.ELR));
            state.putPart(State.FLAGS, saved >>> 28);
            state.putPart(State.MASK, saved >>> 7);
            state.putPart(State.LEVEL, from >>> 2);
            state.putPart(State.SPSEL, from);
            return true;
        }

        boolean system(int word) {
            boolean read = Bits.isOne(word, 21);
            int key = Bits.field(word, 5, 14);
            int part = partOf(key);
            if (word >>> 22 != 0x354 || Bits.field(word, 19, 2) != 3 || part == NONE
                    || part == State.LEVEL && !read) {
                return false;
            }
            int t = Bits.field(word, 0, 5);
            if (state.level() == 0 && part != State.FLAGS && part != State.TPIDR) {
                state.raise(SYSTEM, systemWhat(key, t, read));
            } else if (read) {
                state.putRegister(t, state.part(part) << placeOf(part));
            } else {
                state.putPart(part, state.register(t) >>> placeOf(part));
            }
            return true;
        }

        private static int partOf(int key) {
            switch (key) {
                case 128:
                    return State.SCTLR;
                case 256:
                    return State.TTBR;
                case 512:
                    return State.SPSR;
                case 513:
                    return State.ELR;
                case 520:
                    return State.STACKS;
                case 528:
                    return State.SPSEL;
                case 530:
                    return State.LEVEL;
                case 656:
                    return State.ESR;
                case 768:
                    return State.FAR;
                case 1536:
                    return State.VBAR;
                case 6672:
                    return State.FLAGS;
                case 6673:
                    return State.MASK;
                case 7810:
                    return State.TPIDR;
                default:
                    return NONE;
            }
        }

        /** Where a part's lowest bit stands in a register. */
        private static int placeOf(int part) {
            switch (part) {
                case State.FLAGS:
                    return 28;
                case State.MASK:
                    return 7;
                case State.LEVEL:
                    return 2;
                default:
                    return 0;
            }
        }

        private static int systemWhat(int key, int t, boolean read) {
            return 3 << 20 | (key & 7) << 17 | key >>> 11 << 14 | (key >>> 7 & 15) << 10 | t << 5
                    | (key >>> 3 & 15) << 1 | (read ? 1 : 0);
        }

        boolean setting(int word) {
            if (word >>> 19 != 0x1AA0 || Bits.field(word, 12, 4) != 4 || Bits.field(word, 0, 5) != 31
                    || state.level() == 0) {
                return false;
            }
            int number = Bits.field(word, 8, 4);
            switch (Bits.field(word, 16, 3) << 3 | Bits.field(word, 5, 3)) {
                case 5:
                    state.putPart(State.SPSEL, number);
                    return true;
                case 30:
                case 31:
                    if ((number & 2) != 0) {
                        state.putPart(State.MASK, Bits.isOne(word, 5) ? 0 : 1);
                    }
                    return true;
                default:
                    return false;
            }
        }
    }
}
