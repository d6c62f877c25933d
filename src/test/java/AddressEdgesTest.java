/** The edges of ADDRESSES: a test for each sentence about the walk and about where an access may be. */
public final class AddressEdgesTest {
    private static final int LOAD = 0, STORE = 1, EXECUTE = 2;
    private static final long ACCESS = 1024, SHARED = 64, FIXED = 128;
    private static final long NOT_ONE = 1L << 53, NOT_ZERO = 1L << 54;

    private final Check check = new Check();

    public static void main(String[] args) {
        AddressEdgesTest test = new AddressEdgesTest();
        test.withoutSign();
        test.translationOff();
        test.translationOn();
        test.highBits();
        test.upperTable();
        test.lowerTable();
        test.kindsOfEntries();
        test.looksBeyondMemory();
        test.access();
        test.levelZeroData();
        test.noneMayWrite();
        test.levelOneExecutes();
        test.whatLevelZeroWrites();
        test.levelZeroExecutes();
        test.permission();
        test.frames();
        test.alignment();
        test.alignmentFirst();
        test.external();
        test.lowerFirst();
        test.eitherFaults();
        test.check.end();
    }

    /** Tables at 4096 (level 2) and 8192 (level 3), the second one for the lowest addresses. */
    private static GuardCore mapped() {
        GuardCore core = new GuardCore();
        Check.put(core, Check.TTBR, 4096);
        Check.put(core, Check.SCTLR, 1);
        Check.pokeLong(core, 4096, 8192 + 3);
        return core;
    }

    private void looks(GuardCore core, long address, int what, int level, int due) {
        int got = core.look((int) (address >>> 32), (int) address, what, level);
        check.same("look at " + Long.toHexString(address) + " what " + what + " level " + level, got, due);
    }

    private void looksEach(GuardCore core, long address, int due) {
        for (int what = LOAD; what <= EXECUTE; what++) {
            looks(core, address, what, 0, due);
            looks(core, address, what, 1, due);
        }
    }

    private void withoutSign() {
        check.sentence("ADDRESSES are of 64 bits, without sign.");
        for (long address : new long[] {65536, 1L << 31, 0xFFFFFFFFL, 1L << 32, Long.MAX_VALUE, Long.MIN_VALUE, -1}) {
            looksEach(new GuardCore(), address, -17);
            check.one(Check.SIGNED, 0, 1, 0, 0, 1, 2).with(1, address).raisesAt(address, 37, 16);
        }
        check.one(Check.SCALED, 3, 1, 2, 1, 2).with(1, -8).holding(8, 77).leaves(2, 77);
        check.one(Check.SIGNED, 3, 1, -8, 0, 1, 2).with(1, 8).holding(0, 77).leaves(2, 77);
        check.one(Check.SIGNED, 3, 1, -8, 0, 1, 2).with(1, 0).raisesAt(-8, 37, 16);
        check.one(Check.INDEXED, 3, 1, 4, 3, 0, 1, 2).with(1, 1L << 63).with(4, 1L << 63 | 16).holding(16, 77).leaves(2, 77);
        check.one(Check.PAIR, 2, 2, 1, 1, 3, 1, 2).with(1, -8).holding(0, 77).holding(8, 78).leaves(2, 77, 3, 78);
        check.one(Check.PAIR, 2, 2, 1, 0, 3, 1, 2).with(1, -8).raisesAt(-8, 37, 16);
        check.one(Check.SIGNED, 3, 1, -8, 1, 1, 2).with(1, 0).holding(0, 77).leaves(1, -8, 2, 77);
        check.one(Check.NEAR, 0, -2000, 2).raisesAt(4096 - 8000, 37, 16);
    }

    private void translationOff() {
        check.sentence("With translation off an address is what it says.");
        for (long control : new long[] {0, 2, -2, Long.MIN_VALUE, 1L << 32}) {
            GuardCore core = mapped();
            Check.pokeLong(core, 8192, ACCESS | 0x3000 | 3);
            Check.put(core, Check.SCTLR, control);
            for (int address : new int[] {0, 1, 4095, 4096, 65535}) {
                looksEach(core, address, address);
            }
            looksEach(core, 65536, -17);
            looksEach(core, 1L << 30, -17);
        }
    }

    private void translationOn() {
        check.sentence("SCTLR (bit 0: translation is on)");
        for (long control : new long[] {1, 3, -1, Long.MIN_VALUE + 1}) {
            GuardCore core = mapped();
            Check.pokeLong(core, 8192, ACCESS | 0x3000 | 3);
            Check.put(core, Check.SCTLR, control);
            looks(core, 5, LOAD, 1, 0x3005);
            looks(core, 4096, LOAD, 1, -8);
        }
    }

    private void highBits() {
        check.sentence("With translation on bits 63 .. 30 must be 0, else FAULT translation, level 2.");
        GuardCore core = mapped();
        Check.pokeLong(core, 4096, ACCESS | 1);
        Check.pokeLong(core, 4096 + 8 * 511, ACCESS | 1);
        looks(core, 0, LOAD, 1, 0);
        looks(core, 0x3FE0FFFFL, LOAD, 1, 65535);
        for (int bit = 30; bit < 64; bit++) {
            looks(core, 1L << bit, LOAD, 1, -7);
            looks(core, 1L << bit | 0x3FE00000L, STORE, 0, -7);
        }
        looksEach(core, -1, -7);
        Check.put(core, Check.TTBR, 65536);
        looks(core, 0x3FFFFFFFL, LOAD, 1, -23);
        looks(core, 0x40000000L, LOAD, 1, -7);
        check.one(Check.SIGNED, 0, 1, 0, 0, 1, 2).mapped().with(1, 1L << 30).raisesAt(1L << 30, 37, 6);
        check.one(Check.SIGNED, 0, 0, 0, 0, 1, 2).mapped().level(0).with(1, 1L << 63).raisesAt(1L << 63, 36, 70);
    }

    private void upperTable() {
        check.sentence("level 2, the eight bytes at TTBR's bits 47 .. 12 (others 0) + 8 * bits 29 .. 21 of the address");
        for (int index : new int[] {0, 1, 2, 255, 256, 510, 511}) {
            GuardCore core = mapped();
            Check.pokeLong(core, 4096, 0);
            Check.pokeLong(core, 4096 + 8 * index, ACCESS | 1);
            long first = (long) index << 21;
            looks(core, first, LOAD, 1, 0);
            looks(core, first + 65535, LOAD, 1, 65535);
            looks(core, first + 0x1FFFFF, LOAD, 1, -17);
            looks(core, index == 0 ? 1L << 21 : first - 1, LOAD, 1, -7);
            looks(core, first + 0x200000, LOAD, 1, -7);
            for (long others : new long[] {0xFFF, 1, 0x800, 1L << 48, 1L << 63, 0xFFFF000000000FFFL}) {
                Check.put(core, Check.TTBR, 4096 | others);
                looks(core, first + 9, LOAD, 1, 9);
            }
            for (int bit = 13; bit < 48; bit++) {
                Check.put(core, Check.TTBR, 4096 | 1L << bit);
                looks(core, first + 9, LOAD, 1, bit < 16 ? -7 : -23);
            }
        }
    }

    private void lowerTable() {
        check.sentence("if their lowest two bits are 3, level 3, the eight bytes at their bits 47 .. 12 + 8 * bits 20 .. 12 of the address");
        for (int index : new int[] {0, 1, 2, 255, 256, 510, 511}) {
            GuardCore core = mapped();
            Check.pokeLong(core, 8192 + 8 * index, ACCESS | 0x3000 | 3);
            long first = (long) index << 12;
            looks(core, first, LOAD, 1, 0x3000);
            looks(core, first + 4095, LOAD, 1, 0x3FFF);
            looks(core, index == 0 ? 4096 : first - 1, LOAD, 1, -8);
            for (long others : new long[] {0xFFC, 4, 0x800, 1L << 48, 1L << 63, NOT_ONE, NOT_ZERO, 0xFFFF000000000FFCL}) {
                Check.pokeLong(core, 4096, 8192 | others | 3);
                looks(core, first + 9, LOAD, 1, 0x3009);
                looks(core, first + 9, EXECUTE, 1, 0x3009);
                looks(core, first + 9, STORE, 1, 0x3009);
            }
            for (int bit = 14; bit < 48; bit++) {
                Check.pokeLong(core, 4096, 8192 | 1L << bit | 3);
                looks(core, first + 9, LOAD, 1, bit < 16 ? -8 : -24);
            }
        }
    }

    private void kindsOfEntries() {
        check.sentence("Lowest two bits 1 at level 2 are a BLOCK, 3 at level 3 a PAGE; all else is FAULT translation of that level");
        long[] others = {0, ACCESS | SHARED, ACCESS | SHARED | 0x3000, -4};
        for (long other : others) {
            for (int kind : new int[] {0, 2}) {
                GuardCore core = mapped();
                Check.pokeLong(core, 4096, other | kind);
                looksEach(core, 0x123, -7);
            }
            for (int kind : new int[] {0, 1, 2}) {
                GuardCore core = mapped();
                Check.pokeLong(core, 8192, other | kind);
                looksEach(core, 0x123, -8);
            }
        }
        GuardCore core = mapped();
        Check.pokeLong(core, 8192, ACCESS | 0x3000 | 3);
        looks(core, 0x123, LOAD, 1, 0x3123);
        Check.pokeLong(core, 4096, ACCESS | 1);
        looks(core, 0x123, LOAD, 1, 0x123);
        check.one(Check.SIGNED, 0, 1, 0, 0, 1, 2).mapped().with(1, 1 << 21).raisesAt(1 << 21, 37, 6);
        check.one(Check.SIGNED, 0, 1, 0, 0, 1, 2).mapped().with(1, 0x5001).raisesAt(0x5001, 37, 7);
    }

    private void looksBeyondMemory() {
        check.sentence("a look beyond memory FAULT 20 + level");
        GuardCore core = mapped();
        Check.put(core, Check.TTBR, 61440);
        Check.pokeLong(core, 65528, ACCESS | 1);
        looks(core, 0x3FE00000L, LOAD, 1, 0);
        for (long table : new long[] {65536, 1L << 17, 1L << 32, 1L << 47, 0xFFFFFFFFF000L}) {
            Check.put(core, Check.TTBR, table);
            looksEach(core, 0, -23);
            looksEach(core, 0x3FFFFFFFL, -23);
        }
        GuardCore lower = mapped();
        Check.pokeLong(lower, 4096, 61440 + 3);
        Check.pokeLong(lower, 65528, ACCESS | 0x3000 | 3);
        looks(lower, 0x1FF007, LOAD, 1, 0x3007);
        for (long table : new long[] {65536, 1L << 17, 1L << 32, 1L << 47, 0xFFFFFFFFF000L}) {
            Check.pokeLong(lower, 4096, table | 3);
            looksEach(lower, 0, -24);
            looksEach(lower, 0x1FFFFF, -24);
        }
        check.one(Check.SIGNED, 0, 1, 0, 0, 1, 2).mapped().holding(0xC008, 65536 + 3).with(1, 1 << 21).raisesAt(1 << 21, 37, 23);
        check.one(Check.SIGNED, 0, 0, 0, 0, 1, 2).mapped().level(0).holding(0xC008, 65536 + 3).with(1, 1 << 21)
                .raisesAt(1 << 21, 36, 87);
        check.one(Check.HINT, 0).mapped().with(Check.TTBR, 65536).raisesAt(4096, 33, 22);
        check.one(Check.HINT, 0).mapped().level(0).holding(0xC000, 65536 + 3).raisesAt(4096, 32, 23);
    }

    /** A page and a block of one entry, at addresses 0x5123 and 7 * 2 to the power 21 + 0x1123. */
    private void entry(long bits, int what, int level, int fault) {
        GuardCore core = mapped();
        Check.pokeLong(core, 8192 + 8 * 5, bits | 0x3000 | 3);
        Check.pokeLong(core, 4096 + 8 * 7, bits | 1);
        looks(core, 0x5123, what, level, fault == 0 ? 0x3123 : -1 - fault - 3);
        looks(core, 7L << 21 | 0x1123, what, level, fault == 0 ? 0x1123 : -1 - fault - 2);
    }

    private void access() {
        check.sentence("Of a block or page: bit 10 ACCESS, 0: FAULT access of that level.");
        for (long bits : new long[] {0, SHARED, SHARED | FIXED, FIXED, NOT_ONE | NOT_ZERO, 0x800 | 0x200}) {
            for (int what = LOAD; what <= EXECUTE; what++) {
                entry(bits, what, 0, 8);
                entry(bits, what, 1, 8);
            }
        }
        entry(ACCESS | SHARED, LOAD, 0, 0);
    }

    private void levelZeroData() {
        check.sentence("Bit 6: level 0 may read and write");
        for (int what = LOAD; what <= STORE; what++) {
            entry(ACCESS | SHARED, what, 0, 0);
            entry(ACCESS | SHARED | NOT_ONE | NOT_ZERO, what, 0, 0);
            entry(ACCESS, what, 0, 12);
            entry(-1L & ~0xFFFFFFFFFFFFL | ACCESS | 0x820, what, 0, 12);
            entry(ACCESS, what, 1, 0);
            entry(ACCESS | SHARED, what, 1, 0);
            entry(ACCESS | NOT_ONE | NOT_ZERO, what, 1, 0);
        }
    }

    private void noneMayWrite() {
        check.sentence("7: none may write");
        entry(ACCESS | FIXED, STORE, 1, 12);
        entry(ACCESS | FIXED, STORE, 0, 12);
        entry(ACCESS | FIXED | SHARED, STORE, 1, 12);
        entry(ACCESS | FIXED | SHARED, STORE, 0, 12);
        entry(ACCESS | FIXED, LOAD, 1, 0);
        entry(ACCESS | FIXED | SHARED, LOAD, 0, 0);
        entry(ACCESS, STORE, 1, 0);
        entry(ACCESS | SHARED, STORE, 0, 0);
    }

    private void levelOneExecutes() {
        check.sentence("53: level 1 may not execute");
        entry(ACCESS | NOT_ONE, EXECUTE, 1, 12);
        entry(ACCESS | NOT_ONE | FIXED, EXECUTE, 1, 12);
        entry(ACCESS | NOT_ONE | FIXED | SHARED, EXECUTE, 1, 12);
        entry(ACCESS | NOT_ONE, EXECUTE, 0, 0);
        entry(ACCESS | NOT_ZERO, EXECUTE, 1, 0);
        entry(ACCESS, EXECUTE, 1, 0);
        entry(ACCESS | NOT_ONE, LOAD, 1, 0);
        entry(ACCESS | NOT_ONE, STORE, 1, 0);
    }

    private void whatLevelZeroWrites() {
        check.sentence("(nor what level 0 may write: 6 without 7)");
        entry(ACCESS | SHARED, EXECUTE, 1, 12);
        entry(ACCESS | SHARED | NOT_ZERO, EXECUTE, 1, 12);
        entry(ACCESS | SHARED | FIXED, EXECUTE, 1, 0);
        entry(ACCESS | FIXED, EXECUTE, 1, 0);
        entry(ACCESS, EXECUTE, 1, 0);
        entry(ACCESS | SHARED, EXECUTE, 0, 0);
    }

    private void levelZeroExecutes() {
        check.sentence("54: level 0 may not execute.");
        for (long bits : new long[] {0, SHARED, FIXED, SHARED | FIXED, NOT_ONE, NOT_ONE | SHARED}) {
            entry(ACCESS | bits | NOT_ZERO, EXECUTE, 0, 12);
            entry(ACCESS | bits, EXECUTE, 0, 0);
        }
        entry(ACCESS | NOT_ZERO | SHARED, LOAD, 0, 0);
        entry(ACCESS | NOT_ZERO | SHARED, STORE, 0, 0);
    }

    private void permission() {
        check.sentence("What may not be: FAULT permission of that level.");
        check.one(Check.SIGNED, 0, 1, 0, 0, 1, 2).mapped().level(0).page(5, ACCESS | 0x3000).with(1, 0x5123).raisesAt(0x5123, 36, 15);
        check.one(Check.SIGNED, 0, 0, 0, 0, 1, 2).mapped().level(0).page(5, ACCESS | 0x3000).with(1, 0x5123).raisesAt(0x5123, 36, 79);
        check.one(Check.SIGNED, 0, 0, 0, 0, 1, 2).mapped().page(5, ACCESS | FIXED | 0x3000).with(1, 0x5123).raisesAt(0x5123, 37, 79);
        check.one(Check.SIGNED, 0, 1, 0, 0, 1, 2).mapped().level(0).holding(0xC008, ACCESS | 1).with(1, 1 << 21)
                .raisesAt(1 << 21, 36, 14);
        check.one(Check.SIGNED, 0, 0, 0, 0, 1, 2).mapped().holding(0xC008, ACCESS | FIXED | 1).with(1, 1 << 21)
                .raisesAt(1 << 21, 37, 78);
        check.one(Check.HINT, 0).mapped().page(1, ACCESS | 4096 | NOT_ONE).raisesAt(4096, 33, 15);
        check.one(Check.HINT, 0).mapped().page(1, ACCESS | 4096 | SHARED).raisesAt(4096, 33, 15);
        check.one(Check.HINT, 0).mapped().level(0).page(1, ACCESS | 4096 | NOT_ZERO).raisesAt(4096, 32, 15);
        check.one(Check.HINT, 0).mapped().holding(0xC000, ACCESS | NOT_ONE | 1).raisesAt(4096, 33, 14);
    }

    private void frames() {
        check.sentence("The address is then their bits 47 .. 12 and the lowest 12 of the address (of a block 47 .. 21, the lowest 21).");
        GuardCore core = mapped();
        for (long frame : new long[] {0, 0x1000, 0x8000, 0xF000}) {
            Check.pokeLong(core, 8192, frame | ACCESS | 3);
            for (int inside : new int[] {0, 1, 0x7FF, 0x800, 0xFFF}) {
                looks(core, inside, LOAD, 1, (int) frame + inside);
            }
        }
        long others = 0xFFFF000000000B3CL & ~NOT_ONE & ~NOT_ZERO;
        Check.pokeLong(core, 8192, others | 0x7000 | ACCESS | 3);
        looks(core, 0xABC, LOAD, 1, 0x7ABC);
        for (int bit = 16; bit < 48; bit++) {
            Check.pokeLong(core, 8192, 1L << bit | ACCESS | 3);
            looks(core, 0, LOAD, 1, -17);
        }
        // of a block the bits 20 .. 12 come from the address
        Check.pokeLong(core, 4096 + 8, others | 0x1FF000 | ACCESS | 1);
        for (int inside : new int[] {0, 1, 0xFFF, 0x1000, 0xFFFF}) {
            looks(core, 1L << 21 | inside, LOAD, 1, inside);
        }
        looks(core, 1L << 21 | 0x10000, LOAD, 1, -17);
        looks(core, 1L << 21 | 0x1FFFFF, LOAD, 1, -17);
        for (int bit = 21; bit < 48; bit++) {
            Check.pokeLong(core, 4096 + 8, 1L << bit | ACCESS | 1);
            looks(core, 1L << 21, LOAD, 1, -17);
        }
    }

    private void alignment() {
        check.sentence("An access of n bytes must be at a multiple of n, else FAULT alignment");
        for (int z = 0; z < 4; z++) {
            for (int off = 0; off < 8; off++) {
                long address = 8192 + off;
                boolean good = off % (1 << z) == 0;
                One load = check.one(Check.SIGNED, z, 1, 0, 0, 1, 2).with(1, address);
                One store = check.one(Check.SIGNED, z, 0, 0, 0, 1, 2).with(1, address).with(2, 0);
                if (good) {
                    load.leaves(2, 0);
                    store.leaves();
                } else {
                    load.raisesAt(address, 37, 33);
                    store.raisesAt(address, 37, 97);
                }
            }
        }
        for (int off = 1; off < 8; off++) {
            check.one(Check.PAIR, 2, 2, 1, 0, 3, 1, 2).with(1, 8192 + off).raisesAt(8192 + off, 37, 33);
            check.one(Check.PAIR, 2, 2, 0, 0, 3, 1, 2).with(1, 8192 + off).raisesAt(8192 + off, 37, 97);
            One words = check.one(Check.PAIR, 0, 2, 1, 0, 3, 1, 2).with(1, 8192 + off).level(0);
            if (off == 4) {
                words.leaves(2, 0, 3, 0);
            } else {
                words.raisesAt(8192 + off, 36, 33);
            }
        }
        check.one(Check.NEAR, 1, 3, 2).raisesAt(4108, 37, 33);
        check.one(Check.NEAR, 0, 3, 2).leaves(2, 0);
    }

    private void alignmentFirst() {
        check.sentence("else FAULT alignment, ahead of all others");
        long[] addresses = {65537, -1, (1L << 30) + 1, 1L << 63 | 4};
        for (long address : addresses) {
            check.one(Check.SIGNED, 3, 1, 0, 0, 1, 2).with(1, address).raisesAt(address, 37, 33);
            check.one(Check.SIGNED, 3, 0, 0, 0, 1, 2).mapped().with(1, address).raisesAt(address, 37, 97);
        }
        check.one(Check.SIGNED, 1, 1, 0, 0, 1, 2).mapped().with(1, 0x5001).raisesAt(0x5001, 37, 33);
        check.one(Check.SIGNED, 1, 1, 0, 0, 1, 2).mapped().page(5, 0x3000).with(1, 0x5001).raisesAt(0x5001, 37, 33);
        check.one(Check.SIGNED, 1, 0, 0, 0, 1, 2).mapped().level(0).page(5, 0x3000 | ACCESS).with(1, 0x5001)
                .raisesAt(0x5001, 36, 97);
        check.one(Check.SIGNED, 1, 1, 0, 0, 1, 2).mapped().page(5, 0x10000 | ACCESS).with(1, 0x5001).raisesAt(0x5001, 37, 33);
        check.one(Check.SIGNED, 1, 1, 0, 0, 1, 2).mapped().holding(0xC008, 65536 + 3).with(1, 1 << 21 | 1)
                .raisesAt(1 << 21 | 1, 37, 33);
    }

    private void external() {
        check.sentence("one that ends beyond memory, with all translated, is FAULT external");
        for (int z = 0; z < 4; z++) {
            int size = 1 << z;
            check.one(Check.SIGNED, z, 1, 0, 0, 1, 2).with(1, 65536 - size).holding(65528, 7L << 64 - 8 * size).leaves(2, 7);
            check.one(Check.SIGNED, z, 1, 0, 0, 1, 2).with(1, 65536).raisesAt(65536, 37, 16);
            check.one(Check.SIGNED, z, 0, 0, 0, 1, 2).with(1, 65536).raisesAt(65536, 37, 80);
            check.one(Check.SIGNED, z, 1, 0, 0, 1, 2).mapped().page(5, 0xF000 | ACCESS).with(1, 0x6000 - size)
                    .holding(65528, 7L << 64 - 8 * size).leaves(2, 7);
            check.one(Check.SIGNED, z, 1, 0, 0, 1, 2).mapped().page(5, 0x10000 | ACCESS).with(1, 0x5000).raisesAt(0x5000, 37, 16);
            check.one(Check.SIGNED, z, 0, 0, 0, 1, 2).mapped().page(5, 0x10000 | ACCESS).with(1, 0x5000).raisesAt(0x5000, 37, 80);
        }
        // all that the walk finds comes first
        check.one(Check.SIGNED, 0, 1, 0, 0, 1, 2).mapped().page(5, 0x10000).with(1, 0x5000).raisesAt(0x5000, 37, 11);
        check.one(Check.SIGNED, 0, 1, 0, 0, 1, 2).mapped().level(0).page(5, 0x10000 | ACCESS).with(1, 0x5000)
                .raisesAt(0x5000, 36, 15);
        check.one(Check.SIGNED, 0, 0, 0, 0, 1, 2).mapped().page(5, 0x10000 | ACCESS | FIXED).with(1, 0x5000)
                .raisesAt(0x5000, 37, 79);
        // an address far beyond memory may be a place in it
        check.one(Check.SIGNED, 0, 1, 0, 0, 1, 2).mapped().holding(0xC000 + 8 * 511, ACCESS | 1).with(1, 0x3FE00000L | 0xE000)
                .holding(0xE000, 7).leaves(2, 7);
        check.one(Check.HINT, 0).at(65532).goes(65536);
        check.one(Check.HINT, 0).at(65536).raisesAt(65536, 33, 16);
        check.one(Check.HINT, 0).mapped().page(1, 0x10000 | ACCESS).raisesAt(4096, 33, 16);
    }

    private void lowerFirst() {
        check.sentence("A pair is two accesses, the lower one first");
        // the lower one is in page 4, the upper one in page 5
        long[] lowers = {0, 0x3000, 0x3000 | ACCESS | FIXED, 0x10000 | ACCESS};
        int[] whats = {7, 11, 15, 16};
        for (int i = 0; i < lowers.length; i++) {
            One both = check.one(Check.PAIR, 2, 2, 0, -1, 3, 1, 2).mapped().with(1, 0x5000);
            both.holding(0xD000 + 8 * 4, i == 0 ? 0 : lowers[i] | 3);
            both.page(5, i == 1 ? ACCESS | FIXED | 0x3000 : 0x3000).raisesAt(0x4FF8, 37, 64 + whats[i]);
            One upper = check.one(Check.PAIR, 2, 2, 0, -1, 3, 1, 2).mapped().with(1, 0x5000).page(4, ACCESS | 0x3000);
            upper.holding(0xD000 + 8 * 5, i == 0 ? 0 : lowers[i] | 3).raisesAt(0x5000, 37, 64 + whats[i]);
        }
        check.one(Check.PAIR, 2, 2, 1, 0, 3, 1, 2).with(1, 65528).raisesAt(65536, 37, 16);
        check.one(Check.PAIR, 2, 2, 1, 0, 3, 1, 2).with(1, 65536).raisesAt(65536, 37, 16);
        check.one(Check.PAIR, 0, 2, 1, 0, 3, 1, 2).with(1, 65532).level(0).raisesAt(65536, 36, 16);
        check.one(Check.PAIR, 0, 2, 0, 0, 3, 1, 2).with(1, 65532).level(0).raisesAt(65536, 36, 80);
        check.one(Check.PAIR, 2, 2, 1, 0, 3, 1, 2).with(1, 65520).leaves(2, 0, 3, 0);
    }

    private void eitherFaults() {
        check.sentence("nothing is loaded or stored if either one faults");
        for (int p = 1; p < 4; p++) {
            int i = p == 1 ? 1 : 0;
            check.one(Check.PAIR, 2, p, 1, i, 3, 1, 2).with(1, 65528).holding(65528, 77).raisesAt(65536, 37, 16);
            check.one(Check.PAIR, 2, p, 0, i, 3, 1, 2).with(1, 65528).holding(65528, 77).raisesAt(65536, 37, 80).holds(65528, 77);
            check.one(Check.PAIR, 0, p, 0, i, 3, 1, 2).with(1, 65532).holding(65528, 77).raisesAt(65536, 37, 80).holds(65528, 77);
            check.one(Check.PAIR, 1, p, 1, i, 3, 1, 2).with(1, 65532).holding(65528, 77).raisesAt(65536, 37, 16);
        }
        check.one(Check.PAIR, 2, 2, 0, -1, 3, 1, 2).with(1, 0).holding(0, 77).raisesAt(-8, 37, 80).holds(0, 77);
        check.one(Check.PAIR, 2, 2, 0, -1, 3, 1, 2).mapped().with(1, 0x5000).page(4, ACCESS | FIXED | 0x3000)
                .page(5, ACCESS | 0x6000).raisesAt(0x4FF8, 37, 79).holds(0x3FF8, 0).holds(0x6000, 0);
        check.one(Check.PAIR, 2, 2, 0, -1, 3, 1, 2).mapped().with(1, 0x5000).page(4, ACCESS | 0x3000)
                .page(5, ACCESS | FIXED | 0x6000).raisesAt(0x5000, 37, 79).holds(0x3FF8, 0).holds(0x6000, 0);
    }
}
