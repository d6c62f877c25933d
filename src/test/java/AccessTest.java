/** Promise 8: loads and stores. */
public final class AccessTest {
    private static final long PATTERN = 0xF1E2D3C4B5A69788L;
    private static final int STACK = 31;

    public static void main(String[] args) {
        Check check = new Check();
        sizes(check);
        offsets(check);
        changedBases(check);
        indexed(check);
        pairs(check);
        pairBases(check);
        atPlaceZero(check);
        near(check);
        crookedStacks(check);
        faults(check);
        pairFaults(check);
        throughTables(check);
        check.end();
    }

    private static long loaded(long bytes, int z, int o) {
        int spare = 64 - (8 << z);
        long plain = bytes << spare >>> spare;
        long signed = bytes << spare >> spare;
        return o == 1 ? plain : o == 2 ? signed : signed & 0xFFFFFFFFL;
    }

    private static void sizes(Check check) {
        for (int z = 0; z < 4; z++) {
            for (int o = 0; o < 4; o++) {
                for (int i = 0; i < 8 >>> z; i++) {
                    GuardCore core = Check.with(Check.word(Check.SCALED, z, o, i, 1, 2));
                    Check.pokeLong(core, 8192, PATTERN);
                    Check.put(core, 1, 8192);
                    Check.put(core, 2, 0x0123456789ABCDEFL);
                    String call = "size " + z + " kind " + o + " at " + i;
                    int shift = i * (8 << z);
                    boolean none = z == 3 && o > 1 || z == 2 && o == 3;
                    check.same(call, core.step(1), none ? 1 : 0);
                    check.same(call, Check.part(core, Check.ESR), none ? Check.esr(0, 0) : 0);
                    long mask = z == 3 ? -1 : (1L << (8 << z)) - 1;
                    long stored = PATTERN & ~(mask << shift) | (0x0123456789ABCDEFL & mask) << shift;
                    check.same(call + " memory", Check.peekLong(core, 8192), o == 0 ? stored : PATTERN);
                    long due = none || o == 0 ? 0x0123456789ABCDEFL : loaded(PATTERN >>> shift, z, o);
                    check.same(call + " t", Check.part(core, 2), due);
                    check.same(call + " n", Check.part(core, 1), 8192);
                }
            }
        }
        GuardCore core = Check.with(Check.word(Check.SCALED, 3, 0, 0, 1, 31));
        Check.pokeLong(core, 8192, PATTERN);
        Check.put(core, 1, 8192);
        Check.put(core, Check.SP1, -1);
        core.step(1);
        check.same("ZERO is stored", Check.peekLong(core, 8192), 0);
        GuardCore lost = Check.with(Check.word(Check.SCALED, 3, 1, 0, 1, 31));
        Check.pokeLong(lost, 8192, PATTERN);
        Check.put(lost, 1, 8192);
        long[] due = Check.parts(lost);
        due[Check.PC] = 4100;
        lost.step(1);
        check.sameParts("a load to ZERO is lost", lost, due);
    }

    private static void offsets(Check check) {
        for (int z = 0; z < 4; z++) {
            GuardCore core = Check.with(Check.word(Check.SCALED, z, 0, 4095, STACK, 2));
            Check.put(core, Check.SP1, 16384);
            Check.put(core, 2, -1);
            core.step(1);
            int address = 16384 + (4095 << z);
            long mask = z == 3 ? -1 : (1L << (8 << z)) - 1;
            check.same("the widest offset " + z, Check.peekLong(core, address & ~7), mask << (address & 7) * 8);
        }
        for (int i = -256; i < 256; i++) {
            GuardCore core = Check.with(Check.word(Check.SIGNED, 0, 0, i, 0, 1, 2));
            Check.put(core, 1, 8192);
            Check.put(core, 2, 0xAB);
            check.same("offset " + i, core.step(1), 0);
            check.same("offset " + i, core.peek(8192 + i & ~3), 0xAB << (8192 + i & 3) * 8);
            check.same("the base stays", Check.part(core, 1), 8192);
        }
        GuardCore core = Check.with(Check.word(Check.SIGNED, 0, 1, 16, 0, 1, 2));
        Check.put(core, 1, -8);
        core.poke(8, 0x7E);
        core.step(1);
        check.same("an address wraps", Check.part(core, 2), 0x7E);
    }

    private static void changedBases(Check check) {
        for (int p = 1; p < 4; p += 2) {
            for (int n : new int[] {5, STACK}) {
                for (int i : new int[] {-256, -16, 0, 16, 248}) {
                    int part = n == STACK ? Check.SP1 : n;
                    int address = p == 1 ? 8192 : 8192 + i;
                    GuardCore load = Check.with(Check.word(Check.SIGNED, 3, 1, i, p, n, 6));
                    Check.put(load, part, 8192);
                    Check.pokeLong(load, address, PATTERN);
                    load.step(1);
                    check.same("load " + p + " " + i, Check.part(load, 6), PATTERN);
                    check.same("base", Check.part(load, part), 8192 + i);
                    GuardCore store = Check.with(Check.word(Check.SIGNED, 3, 0, i, p, n, 6));
                    Check.put(store, part, 8192);
                    Check.put(store, 6, PATTERN);
                    store.step(1);
                    check.same("store " + p + " " + i, Check.peekLong(store, address), PATTERN);
                    check.same("base", Check.part(store, part), 8192 + i);
                }
            }
            GuardCore same = Check.with(Check.word(Check.SIGNED, 3, 1, 8, p, 5, 5));
            Check.put(same, 5, 8192);
            Check.pokeLong(same, p == 1 ? 8192 : 8200, PATTERN);
            same.step(1);
            check.same("what is loaded comes behind the base", Check.part(same, 5), PATTERN);
            GuardCore old = Check.with(Check.word(Check.SIGNED, 3, 0, 8, p, 5, 5));
            Check.put(old, 5, 8192);
            old.step(1);
            check.same("what is stored is as it was", Check.peekLong(old, p == 1 ? 8192 : 8200), 8192);
            check.same("and the base is new", Check.part(old, 5), 8200);
        }
    }

    private static void indexed(Check check) {
        long[] indexes = {16, -16, 0xFFFFFFF0L, 0x500000010L, 0x5FFFFFFF0L};
        for (int e = 0; e < 8; e++) {
            for (int q = 0; q < 2; q++) {
                for (int z = 0; z < 4; z++) {
                    for (long index : indexes) {
                        GuardCore core = Check.with(Check.word(Check.INDEXED, z, 1, 4, e, q, 3, 2));
                        Check.put(core, 3, 8192);
                        Check.put(core, 4, index);
                        for (int address = 7936; address < 8448; address += 4) {
                            core.poke(address, address * 0x01010101);
                        }
                        long x = e == 2 ? index & 0xFFFFFFFFL : e == 6 ? (long) (int) index : index;
                        long address = 8192 + (q == 1 ? x << z : x);
                        boolean none = e != 2 && e != 3 && e != 6 && e != 7;
                        boolean good = !none && address >= 0 && address < 65536;
                        String call = "index " + e + " " + q + " " + z + " " + index;
                        check.same(call, core.step(1), good ? 0 : 1);
                        long esr = good ? 0 : none ? Check.esr(0, 0) : Check.esr(37, 16);
                        check.same(call, Check.part(core, Check.ESR), esr);
                        check.same(call, Check.part(core, Check.FAR), good || none ? 0 : address);
                        if (good) {
                            long due = loaded(Check.peekLong(core, (int) address & ~7), z, 1);
                            check.same(call, Check.part(core, 2), due);
                        }
                    }
                }
            }
        }
        GuardCore zero = Check.with(Check.word(Check.INDEXED, 3, 1, 31, 3, 0, STACK, 2));
        Check.put(zero, Check.SP1, 8192);
        Check.pokeLong(zero, 8192, PATTERN);
        check.same("m is ZERO, n is SP", zero.step(1), 0);
        check.same("m is ZERO, n is SP", Check.part(zero, 2), PATTERN);
    }

    private static void pairs(Check check) {
        for (int z = 0; z < 4; z++) {
            for (int p = 0; p < 4; p++) {
                for (int o = 0; o < 2; o++) {
                    for (int i : new int[] {-64, -1, 0, 1, 63}) {
                        onePair(check, z, p, o, i);
                    }
                }
            }
        }
        GuardCore twin = Check.with(Check.word(Check.PAIR, 2, 2, 1, 0, 7, 1, 7));
        Check.put(twin, 1, 8192);
        Check.pokeLong(twin, 8192, 11);
        Check.pokeLong(twin, 8200, 22);
        twin.step(1);
        check.same("m comes behind t", Check.part(twin, 7), 22);
    }

    private static void onePair(Check check, int z, int p, int o, int i) {
        GuardCore core = Check.with(Check.word(Check.PAIR, z, p, o, i, 6, 1, 5));
        int size = z == 2 ? 8 : 4;
        int address = p == 1 ? 8192 : 8192 + i * size;
        for (int at = address - 64; at < address + 64; at += 4) {
            core.poke(at, 0x80000000 + at);
        }
        Check.put(core, 1, 8192);
        Check.put(core, 5, PATTERN);
        Check.put(core, 6, ~PATTERN);
        long low = Check.peekLong(core, address & ~7);
        boolean none = z == 3 || p == 0 || z == 1 && o == 0;
        String call = "pair " + z + " " + p + " " + o + " " + i;
        long first = size == 8 ? low : core.peek(address);
        long second = size == 8 ? Check.peekLong(core, address + 8) : core.peek(address + 4);
        if (z == 0) {
            first &= 0xFFFFFFFFL;
            second &= 0xFFFFFFFFL;
        }
        check.same(call, core.step(1), none ? 1 : 0);
        check.same(call, Check.part(core, Check.ESR), none ? Check.esr(0, 0) : 0);
        boolean load = o == 1 && !none;
        check.same(call + " t", Check.part(core, 5), load ? first : PATTERN);
        check.same(call + " m", Check.part(core, 6), load ? second : ~PATTERN);
        check.same(call + " n", Check.part(core, 1), none || p == 2 ? 8192 : 8192 + i * size);
        boolean store = o == 0 && !none;
        for (int at = address - 64; at < address + 64; at += 4) {
            int due = 0x80000000 + at;
            if (store && at >= address && at < address + 2 * size) {
                long value = at < address + size ? PATTERN : ~PATTERN;
                due = (int) (value >>> ((at - address) % size) * 8);
            }
            check.same(call + " at " + at, core.peek(at), due);
        }
    }

    private static void pairBases(Check check) {
        GuardCore stack = Check.with(Check.word(Check.PAIR, 2, 3, 0, -2, 30, STACK, 29));
        Check.put(stack, Check.SP1, 8192);
        Check.put(stack, 29, 1);
        Check.put(stack, 30, 2);
        stack.step(1);
        check.same("SP", Check.part(stack, Check.SP1), 8176);
        check.same("29", Check.peekLong(stack, 8176), 1);
        check.same("30", Check.peekLong(stack, 8184), 2);
        for (int where = 0; where < 2; where++) {
            GuardCore load = Check.with(Check.word(Check.PAIR, 2, 1, 1, 2, where == 0 ? 6 : 1, 1, where == 0 ? 1 : 6));
            Check.put(load, 1, 8192);
            Check.pokeLong(load, 8192, 33);
            Check.pokeLong(load, 8200, 44);
            load.step(1);
            check.same("a base that is loaded", Check.part(load, 1), where == 0 ? 33 : 44);
            GuardCore store = Check.with(Check.word(Check.PAIR, 2, 1, 0, 2, where == 0 ? 6 : 1, 1, where == 0 ? 1 : 6));
            Check.put(store, 1, 8192);
            store.step(1);
            check.same("a base that is stored", Check.peekLong(store, 8192 + 8 * where), 8192);
            check.same("the base", Check.part(store, 1), 8208);
        }
        GuardCore zero = Check.with(Check.word(Check.PAIR, 2, 2, 0, 0, 31, 1, 31));
        Check.put(zero, 1, 8192);
        Check.pokeLong(zero, 8192, -1);
        Check.pokeLong(zero, 8200, -1);
        zero.step(1);
        check.same("ZERO is stored", Check.peekLong(zero, 8192) | Check.peekLong(zero, 8200), 0);
    }

    private static void atPlaceZero(Check check) {
        GuardCore load = Check.with(Check.word(Check.SCALED, 3, 1, 0, 1, 2));
        Check.pokeLong(load, 0, PATTERN);
        check.same("a load at 0", load.step(1), 0);
        check.same("a load at 0", Check.part(load, 2), PATTERN);
        GuardCore store = Check.with(Check.word(Check.SCALED, 3, 0, 0, 1, 2));
        Check.put(store, 2, PATTERN);
        check.same("a store at 0", store.step(1), 0);
        check.same("a store at 0", Check.peekLong(store, 0), PATTERN);
        GuardCore pair = Check.with(Check.word(Check.PAIR, 2, 2, 0, 0, 3, 1, 2));
        Check.put(pair, 2, 5);
        Check.put(pair, 3, 6);
        check.same("a pair at 0", pair.step(1), 0);
        check.same("lower", Check.peekLong(pair, 0), 5);
        check.same("upper", Check.peekLong(pair, 8), 6);
        GuardCore near = Check.with(Check.word(Check.NEAR, 1, -1024, 2));
        Check.pokeLong(near, 0, PATTERN);
        near.step(1);
        check.same("near at 0", Check.part(near, 2), PATTERN);
        GuardCore upper = mapped(Check.word(Check.PAIR, 2, 2, 1, -1, 3, 1, 2), 1);
        Check.put(upper, 1, 0x4000);
        Check.pokeLong(upper, 8224, 1 << 10 | 3);
        Check.pokeLong(upper, 0x6FF8, 11);
        Check.pokeLong(upper, 0, 22);
        check.same("a pair whose upper place is 0", upper.step(1), 0);
        check.same("lower", Check.part(upper, 2), 11);
        check.same("upper", Check.part(upper, 3), 22);
        GuardCore twice = mapped(Check.word(Check.PAIR, 0, 2, 0, -1, 3, 1, 2), 1);
        Check.put(twice, 1, 0x4000);
        Check.put(twice, 2, 5);
        Check.put(twice, 3, 6);
        Check.pokeLong(twice, 8224, 0x6000 | 1 << 10 | 3);
        twice.step(1);
        check.same("two pages of one frame, lower", twice.peek(0x6FFC), 5);
        check.same("two pages of one frame, upper", twice.peek(0x6000), 6);
    }

    private static void near(Check check) {
        for (int s = 0; s < 2; s++) {
            for (int i : new int[] {-1024, -2, 2, 1000, 15358}) {
                GuardCore core = Check.with(Check.word(Check.NEAR, s, i, 3));
                Check.pokeLong(core, 4096 + 4 * i, PATTERN);
                check.same("near " + i, core.step(1), 0);
                check.same("near " + i, Check.part(core, 3), s == 1 ? PATTERN : PATTERN & 0xFFFFFFFFL);
                check.same("PC", Check.part(core, Check.PC), 4100);
            }
        }
        GuardCore odd = Check.with(Check.word(Check.NEAR, 0, 3, 3));
        odd.poke(4108, 77);
        odd.step(1);
        check.same("a word at no multiple of 8", Check.part(odd, 3), 77);
        GuardCore crooked = Check.with(Check.word(Check.NEAR, 1, 1, 3));
        check.same("near at no multiple of 8", crooked.step(1), 1);
        check.same("ESR", Check.part(crooked, Check.ESR), Check.esr(37, 33));
        check.same("FAR", Check.part(crooked, Check.FAR), 4100);
        GuardCore beyond = Check.with(Check.word(Check.NEAR, 0, -262144, 3));
        check.same("near beyond", beyond.step(1), 1);
        check.same("ESR", Check.part(beyond, Check.ESR), Check.esr(37, 16));
        check.same("FAR", Check.part(beyond, Check.FAR), 4096 - 4 * 262144);
        GuardCore stack = Check.with(Check.word(Check.NEAR, 0, 2, 31));
        Check.put(stack, Check.SP1, 1);
        check.same("t 31 is no base", stack.step(1), 0);
        check.same("nor SP", Check.part(stack, Check.SP1), 1);
    }

    private static void crookedStacks(Check check) {
        int[] words = {
            Check.word(Check.SCALED, 0, 1, 8, STACK, 2), Check.word(Check.SIGNED, 3, 0, 8, 0, STACK, 2),
            Check.word(Check.SIGNED, 3, 1, 8, 1, STACK, 2), Check.word(Check.INDEXED, 3, 1, 4, 3, 0, STACK, 2),
            Check.word(Check.PAIR, 2, 2, 1, 1, 4, STACK, 2), Check.word(Check.PAIR, 0, 3, 0, 2, 4, STACK, 2),
        };
        for (int word : words) {
            for (int level = 0; level < 2; level++) {
                for (long stack : new long[] {8192 + 8, 8192 + 1, -1, 65536 + 15}) {
                    GuardCore core = Check.with(word);
                    core.set(Check.LEVEL, 0, level);
                    Check.put(core, level == 0 ? Check.SP0 : Check.SP1, stack);
                    Check.put(core, Check.FAR, 5);
                    check.same("crooked stack", core.step(1), 1);
                    check.same("ESR", Check.part(core, Check.ESR), Check.esr(38, 0));
                    check.same("FAR", Check.part(core, Check.FAR), 5);
                    check.same("SP", Check.part(core, level == 0 ? Check.SP0 : Check.SP1), stack);
                }
                GuardCore core = Check.with(word);
                core.set(Check.LEVEL, 0, level);
                Check.put(core, level == 0 ? Check.SP0 : Check.SP1, 8192);
                Check.put(core, level == 0 ? Check.SP1 : Check.SP0, 1);
                check.same("a straight stack", core.step(1), 0);
            }
        }
        GuardCore none = Check.with(Check.word(Check.SCALED, 3, 2, 0, STACK, 2));
        Check.put(none, Check.SP1, 1);
        none.step(1);
        check.same("none comes first", Check.part(none, Check.ESR), Check.esr(0, 0));
        GuardCore register = Check.with(Check.word(Check.SCALED, 0, 1, 0, 1, 2));
        Check.put(register, 1, 8193);
        check.same("another base may be crooked", register.step(1), 0);
    }

    private static void faults(Check check) {
        long[] bases = {65536, -8, 1L << 32, 1L << 63, 65537, 8193, 65532, 65534};
        for (int level = 0; level < 2; level++) {
            for (int o = 0; o < 2; o++) {
                for (int z = 0; z < 4; z++) {
                    for (long base : bases) {
                        GuardCore core = Check.with(Check.word(Check.SIGNED, z, o, 0, 1, 1, 2));
                        core.set(Check.LEVEL, 0, level);
                        Check.put(core, 1, base);
                        Check.put(core, 2, 77);
                        int size = 1 << z;
                        boolean crooked = base % size != 0;
                        boolean fault = crooked || base < 0 || base + size > 65536;
                        String call = "fault " + level + " " + o + " " + z + " " + base;
                        check.same(call, core.step(1), fault ? 1 : 0);
                        int what = (crooked ? 33 : 16) + (o == 0 ? 64 : 0);
                        check.same(call, Check.part(core, Check.ESR), fault ? Check.esr(36 + level, what) : 0);
                        check.same(call, Check.part(core, Check.FAR), fault ? base : 0);
                        check.same(call, Check.part(core, 1), base);
                        check.same(call, Check.part(core, 2), fault || o == 0 ? 77 : 0);
                    }
                }
            }
        }
        GuardCore core = Check.with(Check.word(Check.SIGNED, 3, 0, 8, 1, 1, 2));
        Check.put(core, 1, 65536);
        core.step(1);
        check.same("a base stays when there is a fault", Check.part(core, 1), 65536);
    }

    private static void pairFaults(Check check) {
        for (int o = 0; o < 2; o++) {
            for (int z = 0; z < 3; z += 2) {
                int size = z == 2 ? 8 : 4;
                long[] bases = {65536 - size, -size, 65536, 8192 + size / 2};
                for (int i = 0; i < bases.length; i++) {
                    GuardCore core = Check.with(Check.word(Check.PAIR, z, 3, o, 1, 3, 1, 2));
                    Check.put(core, 1, bases[i] - size);
                    Check.put(core, 2, 77);
                    Check.put(core, 3, 88);
                    core.poke(65528, 5);
                    core.poke(65532, 6);
                    core.poke(0, 7);
                    long[] due = Check.parts(core);
                    int what = (i == 3 ? 33 : 16) + (o == 0 ? 64 : 0);
                    due[Check.ESR] = Check.esr(37, what);
                    due[Check.FAR] = i == 0 ? 65536 : bases[i];
                    due[Check.ELR] = 4096;
                    due[Check.SPSR] = 128 + 5;
                    due[Check.PC] = 32768 + 512;
                    check.same("pair fault", core.step(1), 1);
                    check.sameParts("pair fault " + o + " " + z + " " + i, core, due);
                    check.same("nothing is stored", core.peek(65528), 5);
                    check.same("nothing is stored", core.peek(65532), 6);
                    check.same("nothing is stored", core.peek(0), 7);
                }
            }
        }
    }

    /** Tables at 4096 and 8192; page 0 has the code, 1 is level 1's, 2 is fixed, 3 is free for both. */
    private static GuardCore mapped(int word, int level) {
        GuardCore core = new GuardCore();
        Check.pokeLong(core, 4096, 8192 + 3);
        Check.pokeLong(core, 8192, 0x3000 | 1 << 10 | 128 | 64 | 3);
        Check.pokeLong(core, 8200, 0x4000 | 1 << 10 | 3);
        Check.pokeLong(core, 8208, 0x5000 | 1 << 10 | 128 | 64 | 3);
        Check.pokeLong(core, 8216, 0x6000 | 1 << 10 | 64 | 3);
        Check.pokeLong(core, 8224, 0x7000 | 64 | 3);
        Check.put(core, Check.TTBR, 4096);
        Check.put(core, Check.SCTLR, 1);
        core.set(Check.LEVEL, 0, level);
        core.poke(0x3000, word);
        return core;
    }

    private static void throughTables(Check check) {
        int[][] faults = {{15, 0, 0, 11, 7}, {15, 15, 0, 11, 7}, {0, 0, 0, 11, 7}, {0, 15, 0, 11, 7}};
        for (int form = 0; form < 4; form++) {
            int level = form >>> 1;
            int store = form & 1;
            for (int page = 1; page <= 5; page++) {
                GuardCore core = mapped(Check.word(Check.SCALED, 3, 1 - store, 1, 1, 2), level);
                Check.put(core, 1, page * 4096);
                Check.put(core, 2, 5);
                Check.pokeLong(core, (page + 3) * 4096 + 8, PATTERN);
                int due = faults[form][page - 1];
                String call = "page " + page + " form " + form;
                check.same(call, core.step(1), due == 0 ? 0 : 1);
                long esr = due == 0 ? 0 : Check.esr(36 + level, due + 64 * store);
                check.same(call, Check.part(core, Check.ESR), esr);
                check.same(call, Check.part(core, Check.FAR), due == 0 ? 0 : page * 4096 + 8);
                check.same(call, Check.part(core, 2), due == 0 && store == 0 ? PATTERN : 5);
                check.same(call, Check.peekLong(core, (page + 3) * 4096 + 8), due == 0 && store == 1 ? 5 : PATTERN);
            }
        }
        GuardCore crooked = mapped(Check.word(Check.SIGNED, 3, 1, 0, 0, 1, 2), 0);
        Check.put(crooked, 1, -1);
        crooked.step(1);
        check.same("alignment is ahead of translation", Check.part(crooked, Check.ESR), Check.esr(36, 33));
        GuardCore pair = mapped(Check.word(Check.PAIR, 2, 2, 0, -1, 3, 1, 2), 0);
        Check.put(pair, 1, 0x4000);
        Check.put(pair, 2, 5);
        pair.step(1);
        check.same("the upper one faults", Check.part(pair, Check.ESR), Check.esr(36, 11 + 64));
        check.same("its address", Check.part(pair, Check.FAR), 0x4000);
        check.same("the lower one is not stored", Check.peekLong(pair, 0x6FF8), 0);
        GuardCore both = mapped(Check.word(Check.PAIR, 2, 2, 0, -1, 3, 1, 2), 1);
        Check.put(both, 1, 0x2000);
        Check.put(both, 2, 5);
        Check.put(both, 3, 6);
        both.step(1);
        check.same("the upper one is fixed", Check.part(both, Check.FAR), 0x2000);
        GuardCore apart = mapped(Check.word(Check.PAIR, 2, 2, 1, -1, 3, 1, 2), 1);
        Check.put(apart, 1, 0x3000);
        Check.pokeLong(apart, 0x5FF8, 11);
        Check.pokeLong(apart, 0x6000, 22);
        Check.pokeLong(apart, 8208, 0x9000 | 1 << 10 | 3);
        Check.pokeLong(apart, 0x9FF8, 33);
        check.same("a pair over two pages", apart.step(1), 0);
        check.same("lower", Check.part(apart, 2), 33);
        check.same("upper", Check.part(apart, 3), 22);
    }
}
