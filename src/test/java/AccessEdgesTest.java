/** The edges of LOADS, STORES, PAIR and NEAR: a test for each sentence about them. */
public final class AccessEdgesTest {
    private static final long LOW = 0xFFFFFFFFL;
    private static final long JUNK = 0xABCDEF0100000000L;
    private static final long PATTERN = 0xF1E2D3C4B5A69788L;
    private static final int BASE = 8192;

    private final Check check = new Check();

    public static void main(String[] args) {
        AccessEdgesTest test = new AccessEdgesTest();
        test.kinds();
        test.stores();
        test.kindsThatAreNone();
        test.zeroAndStack();
        test.scaled();
        test.signed();
        test.changedBases();
        test.signedThatAreNone();
        test.indexes();
        test.indexesThatAreNone();
        test.timesTheBytes();
        test.pairSizes();
        test.pairOffsets();
        test.pairBases();
        test.pairOrder();
        test.near();
        test.basesWithFaults();
        test.baseAheadOfLoad();
        test.storedAsItWas();
        test.check.end();
    }

    // ---- one value

    private void kinds() {
        check.sentence("o 0 store, 1 load, 2 load with sign to 64 bits, 3 to 32 bits (others 0)");
        // size, bytes, loaded, with sign to 64 bits, to 32 bits
        long[][] rows = {
            {0, 0x00, 0, 0, 0}, {0, 0x7F, 0x7F, 0x7F, 0x7F}, {0, 0x80, 0x80, -128, LOW - 127}, {0, 0xFF, 0xFF, -1, LOW},
            {1, 0x7FFF, 0x7FFF, 0x7FFF, 0x7FFF}, {1, 0x8000, 0x8000, -32768, LOW - 32767}, {1, 0xFFFF, 0xFFFF, -1, LOW},
            {1, 0x0080, 0x80, 0x80, 0x80}, {2, 0x7FFFFFFFL, 0x7FFFFFFFL, 0x7FFFFFFFL}, {2, 0x80000000L, 0x80000000L, -0x80000000L},
            {2, LOW, LOW, -1}, {3, Long.MIN_VALUE, Long.MIN_VALUE}, {3, -1, -1}, {3, Long.MAX_VALUE, Long.MAX_VALUE}, {3, 0, 0},
        };
        for (long[] row : rows) {
            long above = row[0] == 3 ? 0 : -1L << (8 << row[0]);
            for (int o = 1; o + 1 < row.length; o++) {
                for (long others : new long[] {0, above}) {
                    check.one(Check.SCALED, row[0], o, 0, 1, 2).with(1, BASE).holding(BASE, row[1] | others).leaves(2, row[o + 1]);
                    check.one(Check.SIGNED, row[0], o, -8, 0, 1, 2).with(1, BASE + 8).holding(BASE, row[1] | others)
                            .leaves(2, row[o + 1]);
                    check.one(Check.INDEXED, row[0], o, 3, 3, 0, 1, 2).with(1, BASE - 8).with(3, 8).holding(BASE, row[1] | others)
                            .leaves(2, row[o + 1]);
                }
            }
        }
    }

    private void stores() {
        check.sentence("LOADS, STORES of 2 to the power z bytes");
        for (int z = 0; z < 4; z++) {
            long bytes = z == 3 ? -1 : (1L << (8 << z)) - 1;
            for (int place = 0; place < 8 >> z; place++) {
                int shift = place * (8 << z);
                long due = PATTERN & ~(bytes << shift) | (~PATTERN & bytes) << shift;
                check.one(Check.SCALED, z, 0, place, 1, 2).with(1, BASE).with(2, ~PATTERN).holding(BASE, PATTERN)
                        .holding(BASE - 8, 5).holding(BASE + 8, 6).leaves().holds(BASE, due).holds(BASE - 8, 5).holds(BASE + 8, 6);
            }
        }
    }

    private void kindsThatAreNone() {
        check.sentence("z 3 with o 2 or 3, z 2 with o 3: none.");
        for (int z = 0; z < 4; z++) {
            for (int o = 1; o < 4; o++) {
                boolean none = z == 3 && o > 1 || z == 2 && o == 3;
                for (int form = 0; form < 5; form++) {
                    One one = form == 0 ? check.one(Check.SCALED, z, o, 0, 1, 2)
                            : form == 1 ? check.one(Check.INDEXED, z, o, 3, 3, 0, 1, 2)
                            : check.one(Check.SIGNED, z, o, 0, form == 4 ? 3 : form - 2, 1, 2);
                    one.with(1, BASE).with(3, 0);
                    if (none) {
                        one.none();
                    } else {
                        one.leaves(2, 0);
                    }
                }
            }
        }
        // none is ahead of a base that is not good
        check.one(Check.SCALED, 3, 2, 0, 31, 2).with(Check.SP1, 1).none();
        check.one(Check.SCALED, 2, 3, 0, 1, 2).with(1, -1).none();
    }

    private void zeroAndStack() {
        check.sentence("t ZERO, n SP.");
        check.one(Check.SCALED, 3, 0, 0, 31, 31).with(Check.SP1, BASE).holding(BASE, -1).leaves().holds(BASE, 0);
        check.one(Check.SCALED, 3, 1, 0, 31, 31).with(Check.SP1, BASE).holding(BASE, -1).leaves();
        check.one(Check.SIGNED, 3, 1, 16, 1, 31, 31).with(Check.SP1, BASE).holding(BASE, -1).leaves(Check.SP1, BASE + 16);
        check.one(Check.SIGNED, 3, 0, 16, 3, 31, 31).with(Check.SP1, BASE).holding(BASE + 16, -1)
                .leaves(Check.SP1, BASE + 16).holds(BASE + 16, 0);
        check.one(Check.INDEXED, 3, 1, 31, 3, 0, 31, 2).with(Check.SP1, BASE).holding(BASE, 7).leaves(2, 7);
    }

    private void scaled() {
        check.sentence("z(2) 111001 o(2) i(12) n t: at n + i * 2 to the power z.");
        for (int z = 0; z < 4; z++) {
            for (int i : new int[] {0, 1, 2047, 2048, 4095}) {
                int place = 16384 + (i << z);
                check.one(Check.SCALED, z, 0, i, 1, 2).with(1, 16384).with(2, 0x77).leaves()
                        .holds(place & ~7, 0x77L << (place & 7) * 8);
                check.one(Check.SCALED, z, 1, i, 1, 2).with(1, 16384).holding(place & ~7, 0x77L << (place & 7) * 8).leaves(2, 0x77);
            }
        }
        // the base of 64 bits, in 64 bits
        check.one(Check.SCALED, 3, 1, 1, 1, 2).with(1, JUNK | BASE).raisesAt((JUNK | BASE) + 8, 37, 16);
    }

    private void signed() {
        check.sentence("i with sign; p 0 at n + i");
        for (int i : new int[] {-256, -255, -1, 0, 1, 254, 255}) {
            int place = BASE + i;
            check.one(Check.SIGNED, 0, 0, i, 0, 1, 2).with(1, BASE).with(2, 0x77).leaves().holds(place & ~7, 0x77L << (place & 7) * 8);
            check.one(Check.SIGNED, 0, 1, i, 0, 1, 2).with(1, BASE).holding(place & ~7, 0x77L << (place & 7) * 8).leaves(2, 0x77);
        }
        // i counts bytes, whatever the size
        check.one(Check.SIGNED, 3, 1, -256, 0, 1, 2).with(1, BASE).holding(BASE - 256, 7).leaves(2, 7);
        check.one(Check.SIGNED, 3, 1, 248, 0, 1, 2).with(1, BASE).holding(BASE + 248, 7).leaves(2, 7);
        check.one(Check.SIGNED, 3, 1, 255, 0, 1, 2).with(1, BASE).raisesAt(BASE + 255, 37, 33);
    }

    private void changedBases() {
        check.sentence("1 at n, 3 at n + i, and n + i becomes n");
        for (int i : new int[] {-256, -8, 0, 8, 248}) {
            check.one(Check.SIGNED, 3, 1, i, 1, 1, 2).with(1, BASE).holding(BASE + i, 8).holding(BASE, 7).leaves(1, BASE + i, 2, 7);
            check.one(Check.SIGNED, 3, 1, i, 3, 1, 2).with(1, BASE).holding(BASE, 8).holding(BASE + i, 7).leaves(1, BASE + i, 2, 7);
            check.one(Check.SIGNED, 3, 0, i, 1, 1, 2).with(1, BASE).with(2, 7).leaves(1, BASE + i).holds(BASE, 7);
            check.one(Check.SIGNED, 3, 0, i, 3, 1, 2).with(1, BASE).with(2, 7).leaves(1, BASE + i).holds(BASE + i, 7);
        }
        // a byte's base may come to any number, SP's too, and wrap
        check.one(Check.SIGNED, 0, 1, 255, 1, 31, 2).with(Check.SP1, BASE).leaves(Check.SP1, BASE + 255, 2, 0);
        check.one(Check.SIGNED, 0, 1, -1, 1, 1, 2).with(1, 0).leaves(1, -1, 2, 0);
        check.one(Check.SIGNED, 0, 1, 1, 1, 1, 2).with(1, 65535).leaves(1, 65536, 2, 0);
        check.one(Check.SIGNED, 0, 1, 1, 3, 1, 2).with(1, -1).holding(0, 7).leaves(1, 0, 2, 7);
    }

    private void signedThatAreNone() {
        check.sentence("and n + i becomes n; 2 none.");
        for (int z = 0; z < 4; z++) {
            for (int o = 0; o < 4; o++) {
                check.one(Check.SIGNED, z, o, 0, 2, 1, 2).with(1, BASE).none();
                check.one(Check.SIGNED, z, o, -1, 2, 31, 2).with(Check.SP1, BASE).none();
            }
        }
    }

    // ---- a register's index

    private void indexes() {
        check.sentence("x being m: e 2 its lowest 32 bits, 6 these with sign, 3 and 7 all");
        long[] indexes = {0, 8, -8, LOW - 7, JUNK | 8, JUNK | LOW - 7, 0x80000000L, 0x7FFFFFF8L, 0xFFFFFFFF00000008L};
        for (long index : indexes) {
            for (int e : new int[] {2, 3, 6, 7}) {
                long x = e == 2 ? index & LOW : e == 6 ? (long) (int) index : index;
                long address = BASE + x;
                One one = check.one(Check.INDEXED, 3, 1, 3, e, 0, 1, 2).with(1, BASE).with(3, index);
                one.holding(BASE - 8, 5).holding(BASE, 6).holding(BASE + 8, 7);
                if (address >= BASE - 8 && address <= BASE + 8) {
                    one.leaves(2, address < BASE ? 5 : address == BASE ? 6 : 7);
                } else {
                    one.raisesAt(address, 37, 16);
                }
            }
        }
        // the sum is of 64 bits
        check.one(Check.INDEXED, 3, 1, 3, 2, 0, 1, 2).with(1, BASE - LOW - 1).with(3, 0x80000000L).raisesAt(BASE - 0x80000000L, 37, 16);
        check.one(Check.INDEXED, 3, 1, 3, 6, 0, 1, 2).with(1, BASE + 0x80000000L).with(3, 0x80000000L).holding(BASE, 7).leaves(2, 7);
        check.one(Check.INDEXED, 3, 1, 3, 2, 0, 1, 2).with(1, BASE - LOW + 7).with(3, LOW - 7).holding(BASE, 7).leaves(2, 7);
    }

    private void indexesThatAreNone() {
        check.sentence("3 and 7 all; others none");
        for (int e = 0; e < 8; e++) {
            for (int q = 0; q < 2; q++) {
                One one = check.one(Check.INDEXED, 3, 1, 3, e, q, 1, 2).with(1, BASE).with(3, 0);
                if (e == 0 || e == 1 || e == 4 || e == 5) {
                    one.none();
                } else {
                    one.leaves(2, 0);
                }
            }
        }
        check.one(Check.INDEXED, 0, 0, 3, 5, 0, 31, 2).with(Check.SP1, 1).none();
    }

    private void timesTheBytes() {
        check.sentence("q 1: times 2 to the power z.");
        for (int z = 0; z < 4; z++) {
            for (int e : new int[] {2, 3, 6, 7}) {
                check.one(Check.INDEXED, z, 1, 3, e, 1, 1, 2).with(1, BASE).with(3, 24).holding(BASE + (24 << z), 0x77).leaves(2, 0x77);
                check.one(Check.INDEXED, z, 1, 3, e, 0, 1, 2).with(1, BASE).with(3, 24).holding(BASE + 24, 0x77).leaves(2, 0x77);
                check.one(Check.INDEXED, z, 0, 3, e, 1, 1, 2).with(1, BASE).with(2, 0x77).with(3, 24).leaves().holds(BASE + (24 << z), 0x77);
            }
            // first cut to 32 bits, with sign or without, then times
            check.one(Check.INDEXED, z, 1, 3, 6, 1, 1, 2).with(1, BASE).with(3, LOW - 7).holding(BASE - (8 << z), 0x77).leaves(2, 0x77);
            check.one(Check.INDEXED, z, 1, 3, 2, 1, 1, 2).with(1, BASE).with(3, LOW - 7)
                    .raisesAt(BASE + (0xFFFFFFF8L << z), 37, 16);
            check.one(Check.INDEXED, z, 1, 3, 3, 1, 1, 2).with(1, BASE).with(3, -8).holding(BASE - (8 << z), 0x77).leaves(2, 0x77);
        }
        check.one(Check.INDEXED, 3, 1, 3, 3, 1, 1, 2).with(1, BASE).with(3, 1L << 61 | 1).holding(BASE + 8, 7).leaves(2, 7);
    }

    // ---- pairs

    private void pairSizes() {
        check.sentence("z 0 words, 2 eight bytes, 1 words with sign (o 1 alone, else none), 3 none");
        long both = 0x7FFFFFFF80000000L;
        check.one(Check.PAIR, 0, 2, 1, 0, 3, 1, 2).with(1, BASE).holding(BASE, both).leaves(2, 0x80000000L, 3, 0x7FFFFFFFL);
        check.one(Check.PAIR, 1, 2, 1, 0, 3, 1, 2).with(1, BASE).holding(BASE, both).leaves(2, -0x80000000L, 3, 0x7FFFFFFFL);
        check.one(Check.PAIR, 1, 2, 1, 0, 3, 1, 2).with(1, BASE).holding(BASE, -1).leaves(2, -1, 3, -1);
        check.one(Check.PAIR, 2, 2, 1, 0, 3, 1, 2).with(1, BASE).holding(BASE, both).holding(BASE + 8, -1).leaves(2, both, 3, -1);
        check.one(Check.PAIR, 0, 2, 0, 0, 3, 1, 2).with(1, BASE).with(2, JUNK | 5).with(3, JUNK | 6).holding(BASE + 8, 9)
                .leaves().holds(BASE, 6L << 32 | 5).holds(BASE + 8, 9).holds(BASE - 8, 0);
        check.one(Check.PAIR, 2, 2, 0, 0, 3, 1, 2).with(1, BASE).with(2, JUNK | 5).with(3, JUNK | 6).holding(BASE + 16, 9)
                .leaves().holds(BASE, JUNK | 5).holds(BASE + 8, JUNK | 6).holds(BASE + 16, 9).holds(BASE - 8, 0);
        for (int p = 0; p < 4; p++) {
            check.one(Check.PAIR, 1, p, 0, 0, 3, 1, 2).with(1, BASE).none().holds(BASE, 0);
            check.one(Check.PAIR, 3, p, 0, 0, 3, 1, 2).with(1, BASE).none().holds(BASE, 0);
            check.one(Check.PAIR, 3, p, 1, 0, 3, 1, 2).with(1, BASE).none();
            check.one(Check.PAIR, 3, p, 1, 0, 3, 31, 2).with(Check.SP1, 1).none();
        }
    }

    private void pairOffsets() {
        check.sentence("i with sign times their bytes");
        for (int i : new int[] {-64, -63, -1, 0, 1, 62, 63}) {
            check.one(Check.PAIR, 2, 2, 1, i, 3, 1, 2).with(1, BASE).holding(BASE + 8 * i, 7).holding(BASE + 8 * i + 8, 8)
                    .leaves(2, 7, 3, 8);
            check.one(Check.PAIR, 2, 3, 0, i, 3, 1, 2).with(1, BASE).with(2, 7).with(3, 8).leaves(1, BASE + 8 * i)
                    .holds(BASE + 8 * i, 7).holds(BASE + 8 * i + 8, 8);
            for (int z = 0; z < 2; z++) {
                GuardCore core = Check.with(Check.word(Check.PAIR, z, 1, 1, i, 3, 1, 2));
                core.poke(BASE, -7);
                core.poke(BASE + 4, 8);
                Check.put(core, 1, BASE);
                check.same("step(1)", core.step(1), 0);
                check.same("t", Check.part(core, 2), z == 0 ? LOW - 6 : -7);
                check.same("m", Check.part(core, 3), 8);
                check.same("n", Check.part(core, 1), BASE + 4 * i);
            }
        }
    }

    private void pairBases() {
        check.sentence("p 2 at n + i; 1 at n, 3 at n + i, and n + i becomes n; 0 none");
        for (int o = 0; o < 2; o++) {
            for (int z = 0; z < 3; z++) {
                check.one(Check.PAIR, z, 0, o, 1, 3, 1, 2).with(1, BASE).none().holds(BASE, 0).holds(BASE + 8, 0);
                check.one(Check.PAIR, z, 0, o, 1, 3, 31, 2).with(Check.SP1, 1).none();
            }
        }
        for (int i : new int[] {-64, -2, 2, 63}) {
            long moved = BASE + 8 * i;
            check.one(Check.PAIR, 2, 2, 1, i, 3, 1, 2).with(1, BASE).holding((int) moved, 7).leaves(2, 7, 3, 0);
            check.one(Check.PAIR, 2, 1, 1, i, 3, 1, 2).with(1, BASE).holding(BASE, 7).leaves(1, moved, 2, 7, 3, 0);
            check.one(Check.PAIR, 2, 3, 1, i, 3, 1, 2).with(1, BASE).holding((int) moved, 7).leaves(1, moved, 2, 7, 3, 0);
            check.one(Check.PAIR, 2, 2, 0, i, 3, 1, 2).with(1, BASE).with(2, 7).leaves().holds((int) moved, 7);
            check.one(Check.PAIR, 2, 1, 0, i, 3, 1, 2).with(1, BASE).with(2, 7).leaves(1, moved).holds(BASE, 7);
            check.one(Check.PAIR, 2, 3, 0, i, 3, 1, 2).with(1, BASE).with(2, 7).leaves(1, moved).holds((int) moved, 7);
        }
    }

    private void pairOrder() {
        check.sentence("t the lower one, m the upper one; o 1 load (m behind t).");
        for (int z = 0; z < 3; z++) {
            long upper = z == 2 ? 8 : 4;
            One one = check.one(Check.PAIR, z, 2, 1, 0, 7, 1, 7).with(1, BASE);
            if (z == 2) {
                one.holding(BASE, 4).holding(BASE + 8, upper).leaves(7, upper);
            } else {
                one.holding(BASE, upper << 32 | 9).leaves(7, upper);
            }
        }
        check.one(Check.PAIR, 2, 2, 0, 0, 7, 1, 7).with(1, BASE).with(7, 5).leaves().holds(BASE, 5).holds(BASE + 8, 5);
        // the upper one may be at place 0, and below the lower one
        check.one(Check.PAIR, 2, 2, 1, -1, 3, 1, 2).mapped().with(1, 0x5000).page(4, 0x6000 | 1024).page(5, 1024)
                .holding(0x6FF8, 7).holding(0, 8).leaves(2, 7, 3, 8);
        check.one(Check.PAIR, 2, 2, 1, 0, 2, 1, 3).with(1, BASE).holding(BASE, 7).holding(BASE + 8, 8).leaves(3, 7, 2, 8);
    }

    // ---- beside PC

    private void near() {
        check.sentence("load of W at PC + 4 * i (with sign).");
        for (int i : new int[] {-1024, -2, 2, 1022, 15358}) {
            check.one(Check.NEAR, 1, i, 2).holding(4096 + 4 * i, PATTERN).leaves(2, PATTERN);
            check.one(Check.NEAR, 0, i, 2).holding(4096 + 4 * i, PATTERN).leaves(2, PATTERN & LOW);
            check.one(Check.NEAR, 0, i + 1, 2).holding(4096 + 4 * i, PATTERN).leaves(2, PATTERN >>> 32);
        }
        for (int i : new int[] {-262144, 262143, -1025, 15360}) {
            check.one(Check.NEAR, 0, i, 2).raisesAt(4096 + 4L * i, 37, 16);
        }
        check.one(Check.NEAR, 0, 0, 2).leaves(2, Check.word(Check.NEAR, 0, 0, 2));
        check.one(Check.NEAR, 0, 262143, 2).at(65532).raisesAt(65532 + 4 * 262143, 37, 16);
        check.one(Check.NEAR, 0, -16383, 2).at(65532).holding(0, 7).leaves(2, 7);
    }

    // ---- the base

    private void basesWithFaults() {
        check.sentence("(n + i becomes n when nothing faults");
        for (int p : new int[] {1, 3}) {
            for (int o = 0; o < 2; o++) {
                check.one(Check.SIGNED, 3, o, 0, p, 1, 2).with(1, 65536).raisesAt(65536, 37, o == 0 ? 80 : 16);
                check.one(Check.SIGNED, 3, o, 8, p, 1, 2).with(1, 65536).raisesAt(p == 1 ? 65536 : 65544, 37, o == 0 ? 80 : 16);
                check.one(Check.SIGNED, 3, o, 1, p, 1, 2).with(1, BASE + 1).raisesAt(p == 1 ? BASE + 1 : BASE + 2, 37, o == 0 ? 97 : 33);
                check.one(Check.PAIR, 2, p, o, 1, 3, 1, 2).with(1, p == 1 ? 65528 : 65520).raisesAt(65536, 37, o == 0 ? 80 : 16);
                check.one(Check.PAIR, 2, p, o, 1, 3, 31, 2).with(Check.SP1, BASE + 8).raises(38, 0);
                check.one(Check.SIGNED, 3, o, 16, p, 31, 2).mapped().level(0).with(Check.SP0, 0x5000)
                        .raisesAt(p == 1 ? 0x5000 : 0x5010, 36, o == 0 ? 71 : 7);
            }
        }
    }

    private void baseAheadOfLoad() {
        check.sentence("ahead of what is loaded");
        for (int p : new int[] {1, 3}) {
            int place = p == 1 ? BASE : BASE + 8;
            check.one(Check.SIGNED, 3, 1, 8, p, 1, 1).with(1, BASE).holding(place, 7).leaves(1, 7);
            check.one(Check.PAIR, 2, p, 1, 1, 3, 1, 1).with(1, BASE).holding(place, 7).holding(place + 8, 8).leaves(1, 7, 3, 8);
            check.one(Check.PAIR, 2, p, 1, 1, 1, 1, 2).with(1, BASE).holding(place, 7).holding(place + 8, 8).leaves(2, 7, 1, 8);
            check.one(Check.PAIR, 2, p, 1, 1, 1, 1, 1).with(1, BASE).holding(place, 7).holding(place + 8, 8).leaves(1, 8);
            // the number 31 is SP as a base and ZERO as what is loaded
            check.one(Check.SIGNED, 3, 1, 16, p, 31, 31).with(Check.SP1, BASE).holding(BASE, 7).leaves(Check.SP1, BASE + 16);
        }
    }

    private void storedAsItWas() {
        check.sentence("what is stored is as it was.)");
        for (int p : new int[] {1, 3}) {
            int place = p == 1 ? BASE : BASE + 8;
            check.one(Check.SIGNED, 3, 0, 8, p, 1, 1).with(1, BASE).leaves(1, BASE + 8).holds(place, BASE);
            check.one(Check.PAIR, 2, p, 0, 1, 3, 1, 1).with(1, BASE).with(3, 5).leaves(1, BASE + 8).holds(place, BASE).holds(place + 8, 5);
            check.one(Check.PAIR, 2, p, 0, 1, 1, 1, 2).with(1, BASE).with(2, 5).leaves(1, BASE + 8).holds(place, 5).holds(place + 8, BASE);
            check.one(Check.PAIR, 2, p, 0, 1, 1, 1, 1).with(1, BASE).leaves(1, BASE + 8).holds(place, BASE).holds(place + 8, BASE);
        }
    }
}
