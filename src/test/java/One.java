/**
 * One instruction at 4096 on a new object in which every register is something else, and what is due
 * of it: each answer is about all parts of the state, those that must stay too.
 */
final class One {
    private final Check check;
    private final int word;
    private final GuardCore core;
    private long pc = 4096;

    One(Check check, int word) {
        this.check = check;
        this.word = word;
        core = new GuardCore();
        core.poke(4096, word);
        for (int part = 0; part <= Check.SP1; part++) {
            Check.put(core, part, junk(part));
        }
        Check.put(core, Check.PC, pc);
        Check.put(core, Check.VBAR, 32768);
    }

    /** What a register holds when a test does not say; a stack pointer's is a multiple of 16. */
    static long junk(int part) {
        return 0x9E3779B97F4A7C15L * (part + 1) & (part < Check.SP0 ? -1L : -16L);
    }

    One with(int part, long value) {
        check.isTrue("set(" + part + ")", core.set(part, (int) (value >>> 32), (int) value));
        return this;
    }

    One at(long place) {
        pc = place;
        core.poke((int) place, word);
        return with(Check.PC, place);
    }

    One level(int level) {
        return with(Check.LEVEL, level);
    }

    /** Eight bytes of memory. */
    One holding(int address, long value) {
        Check.pokeLong(core, address, value);
        return this;
    }

    /**
     * Translation is on, with the tables at 0xC000 and 0xD000; page 1, where the instruction is, is
     * itself, and both levels may load and execute there.
     */
    One mapped() {
        holding(0xC000, 0xD000 + 3);
        page(1, 4096 | 1024 | 128 | 64);
        return with(Check.TTBR, 0xC000).with(Check.SCTLR, 1);
    }

    One page(int index, long entry) {
        return holding(0xD000 + 8 * index, entry | 3);
    }

    /** Nothing is taken, PC is 4 more, and of all else only these parts (number, value, ...) change. */
    One leaves(long... changes) {
        return goes(pc + 4, changes);
    }

    /** As leaves, with another PC. */
    One goes(long to, long... changes) {
        long[] due = Check.parts(core);
        due[Check.PC] = to;
        for (int i = 0; i < changes.length; i += 2) {
            due[(int) changes[i]] = changes[i + 1];
        }
        check.same(name() + " step(1)", core.step(1), 0);
        check.sameParts(name(), core, due);
        return this;
    }

    /** An exception is taken, FAR stays. */
    One raises(int kind, int what) {
        return raisesAt(Check.part(core, Check.FAR), kind, what);
    }

    One none() {
        return raises(0, 0);
    }

    One raisesAt(long far, int kind, int what) {
        long[] due = Check.parts(core);
        boolean low = due[Check.LEVEL] == 0;
        long choice = due[Check.SPSEL];
        due[Check.SPSR] = (due[Check.FLAGS] << 28) + (due[Check.MASK] << 7) + (low ? 0 : 4 + choice);
        due[Check.ELR] = kind == 21 ? pc + 4 : pc;
        due[Check.ESR] = Check.esr(kind, what);
        due[Check.FAR] = far;
        due[Check.PC] = due[Check.VBAR] / 2048 * 2048 + (low ? 1024 : 512 * choice);
        due[Check.LEVEL] = 1;
        due[Check.SPSEL] = 1;
        due[Check.MASK] = 1;
        check.same(name() + " step(1)", core.step(1), 1);
        check.sameParts(name(), core, due);
        return this;
    }

    /** Behind the step: eight bytes of memory. */
    One holds(int address, long due) {
        check.same(name() + " memory at " + address, Check.peekLong(core, address), due);
        return this;
    }

    private String name() {
        return "word " + Integer.toHexString(word);
    }
}
