/** The edges of branches, calls and the system's instructions: a test for each sentence about them. */
public final class FlowEdgesTest {
    private static final long JUNK = 0xABCDEF0100000000L;
    private static final int[] KEYS = {128, 256, 520, 528, 530, 512, 513, 656, 768, 1536, 6672, 6673, 7810};

    private final Check check = new Check();

    public static void main(String[] args) {
        FlowEdgesTest test = new FlowEdgesTest();
        test.branch();
        test.when();
        test.zero();
        test.bit();
        test.toRegister();
        test.conditions();
        test.svc();
        test.brk();
        test.nothing();
        test.backAtLevelZero();
        test.back();
        test.backLevels();
        test.badBack();
        test.systemBoth();
        test.systemStack();
        test.systemSmallParts();
        test.systemLevel();
        test.systemFlags();
        test.systemOthers();
        test.systemAtLevelZero();
        test.systemWhat();
        test.setMask();
        test.setStack();
        test.setOthers();
        test.check.end();
    }

    // ---- branches

    private void branch() {
        check.sentence("PC + 4 * i (with sign); l 1: 30 becomes PC + 4.");
        for (long i : new long[] {0, 1, -1, -1024, -1025, 33554431, -33554432}) {
            check.one(Check.BRANCH, 0, i).goes(4096 + 4 * i);
            check.one(Check.BRANCH, 1, i).goes(4096 + 4 * i, 30, 4100);
        }
        check.one(Check.BRANCH, 0, -1).at(0).goes(-4);
        check.one(Check.BRANCH, 1, 1).at(65532).goes(65536, 30, 65536);
    }

    private void when() {
        check.sentence("IF: 01010100 i(19) 0 c(4).");
        for (long i : new long[] {0, 1, -1, 262143, -262144}) {
            check.one(Check.IF, i, 0).with(Check.FLAGS, 4).goes(4096 + 4 * i);
            check.one(Check.IF, i, 0).with(Check.FLAGS, 11).goes(4100);
            check.one(Check.IF, i, 14).with(Check.FLAGS, 0).goes(4096 + 4 * i);
        }
    }

    private void zero() {
        check.sentence("if t (of W) is 0, o 1: isn't.");
        long[] values = {0, 1, -1, JUNK, 1L << 32, 1L << 31, 1L << 63};
        boolean[] narrow = {true, false, false, true, true, false, true};
        for (int i = 0; i < values.length; i++) {
            for (long far : new long[] {262143, -262144}) {
                long to = 4096 + 4 * far;
                check.one(Check.ZERO, 1, 0, far, 1).with(1, values[i]).goes(i == 0 ? to : 4100);
                check.one(Check.ZERO, 1, 1, far, 1).with(1, values[i]).goes(i == 0 ? 4100 : to);
                check.one(Check.ZERO, 0, 0, far, 1).with(1, values[i]).goes(narrow[i] ? to : 4100);
                check.one(Check.ZERO, 0, 1, far, 1).with(1, values[i]).goes(narrow[i] ? 4100 : to);
            }
        }
    }

    private void bit() {
        check.sentence("if bit 32 * b + p of t is 0, o 1: 1.");
        for (int bit : new int[] {0, 1, 30, 31, 32, 33, 62, 63}) {
            for (long far : new long[] {8191, -8192}) {
                long to = 4096 + 4 * far;
                check.one(Check.BIT, bit / 32, 0, bit % 32, far, 1).with(1, ~(1L << bit)).goes(to);
                check.one(Check.BIT, bit / 32, 0, bit % 32, far, 1).with(1, 1L << bit).goes(4100);
                check.one(Check.BIT, bit / 32, 1, bit % 32, far, 1).with(1, 1L << bit).goes(to);
                check.one(Check.BIT, bit / 32, 1, bit % 32, far, 1).with(1, ~(1L << bit)).goes(4100);
            }
        }
    }

    private void toRegister() {
        check.sentence("to n; o 1: 30 becomes PC + 4; o 3: none.");
        for (long to : new long[] {0, 1, 65536, -1, Long.MIN_VALUE}) {
            check.one(Check.TO, 0, 1).with(1, to).goes(to);
            check.one(Check.TO, 1, 1).with(1, to).goes(to, 30, 4100);
            check.one(Check.TO, 2, 1).with(1, to).goes(to);
            check.one(Check.TO, 3, 1).with(1, to).none();
        }
        check.one(Check.TO, 1, 30).with(30, 8192).goes(8192, 30, 4100);
        check.one(Check.TO, 2, 30).with(30, 8192).goes(8192);
        check.one(Check.TO, 0, 31).goes(0);
        check.one(Check.TO, 3, 31).none();
        // a PC that is no multiple of 4 tells itself only when it is used
        GuardCore core = Check.with(Check.word(Check.TO, 0, 1));
        Check.put(core, 1, 8194);
        check.same("there and on", core.step(2), 1);
        check.same("ESR", Check.part(core, Check.ESR), Check.esr(34, 0));
        check.same("ELR", Check.part(core, Check.ELR), 8194);
    }

    private void conditions() {
        check.sentence("CONDITIONS c: 0 Z, 2 C, 4 N, 6 V, 8 C and not Z, 10 N is V, 12 that and not Z, odd ones the contrary; 14 and 15 always.");
        // bit f: whether the flags f meet it
        int[] even = {0xF0F0, 0xCCCC, 0xFF00, 0xAAAA, 0x0C0C, 0xAA55, 0x0A05, 0xFFFF};
        for (int c = 0; c < 16; c++) {
            for (int flags = 0; flags < 16; flags++) {
                boolean meets = (even[c / 2] >> flags & 1) == 1;
                if (c % 2 == 1 && c != 15) {
                    meets = !meets;
                }
                check.one(Check.IF, 100, c).with(Check.FLAGS, flags).goes(meets ? 4496 : 4100);
                check.one(Check.CHOOSE, 1, 0, 2, c, 0, 1, 0).with(1, 5).with(2, 6).with(Check.FLAGS, flags).leaves(0, meets ? 5 : 6);
                check.one(Check.COMPARE, 1, 1, 1, c, 0, 1, 9).with(Check.FLAGS, flags).leaves(Check.FLAGS, meets ? 6 : 9);
            }
        }
    }

    // ---- calls

    private void svc() {
        check.sentence("class 21, WHAT i.");
        for (int i : new int[] {0, 1, 0x8000, 0xFFFF}) {
            check.one(Check.SVC, i).raises(21, i);
            check.one(Check.SVC, i).level(0).raises(21, i);
        }
        check.one(Check.SVC, 7).at(65532).raises(21, 7);
    }

    private void brk() {
        check.sentence("class 60, WHAT i.");
        for (int i : new int[] {0, 1, 0x8000, 0xFFFF}) {
            check.one(Check.BRK, i).raises(60, i);
            check.one(Check.BRK, i).level(0).raises(60, i);
        }
    }

    private void nothing() {
        check.sentence("NOTHING: 11010101000000110010 and 11010101000000110011, 7 bits, 11111.");
        for (int i = 0; i < 128; i++) {
            check.one(Check.HINT, i).leaves();
            check.one(Check.BARRIER, i).level(0).leaves();
        }
        for (int end = 0; end < 31; end++) {
            new One(check, Check.word(Check.HINT, 0) & ~31 | end).none();
            new One(check, Check.word(Check.BARRIER, 0) & ~31 | end).none();
        }
        check.one("11010101000000110001 i7 11111", 0).none();
        check.one("11010101000000110100 i7 11111", 0).none();
    }

    // ---- back

    private void backAtLevelZero() {
        check.sentence("at level 0 none: PC is ELR");
        for (long saved : new long[] {0, 4, 5, 1}) {
            check.one(Check.BACK).level(0).with(Check.SPSR, saved).with(Check.ELR, 8192).none();
            check.one(Check.BACK).level(0).with(Check.SPSEL, 0).with(Check.SPSR, saved).with(Check.ELR, 8192).none();
        }
    }

    private void back() {
        check.sentence("PC is ELR, N Z C V I by SPSR");
        for (long to : new long[] {0, 8192, 8194, 65536, -1, Long.MIN_VALUE}) {
            check.one(Check.BACK).with(Check.SPSR, 5).with(Check.ELR, to).goes(to, Check.MASK, 0);
        }
        for (long flags = 0; flags < 16; flags++) {
            for (int mask = 0; mask < 2; mask++) {
                check.one(Check.BACK).with(Check.FLAGS, 15 - flags).with(Check.MASK, 1 - mask)
                        .with(Check.SPSR, (flags << 28) + 128 * mask + 5).with(Check.ELR, 8192)
                        .goes(8192, Check.FLAGS, flags, Check.MASK, mask);
                // SPSR's other bits do nothing
                check.one(Check.BACK).with(Check.FLAGS, 15 - flags).with(Check.MASK, 1 - mask)
                        .with(Check.SPSR, -1L << 32 | (flags << 28) + 0x0FFFFF70 + 128 * mask + 5).with(Check.ELR, 8192)
                        .goes(8192, Check.FLAGS, flags, Check.MASK, mask);
            }
        }
    }

    private void backLevels() {
        check.sentence("its lowest four bits 0: level 0, SPSEL 0; 4, 5: level 1, SPSEL the lowest bit");
        for (int choice = 0; choice < 2; choice++) {
            check.one(Check.BACK).with(Check.SPSEL, choice).with(Check.SPSR, 128).goes(0, Check.LEVEL, 0, Check.SPSEL, 0);
            check.one(Check.BACK).with(Check.SPSEL, choice).with(Check.SPSR, 128 + 4).goes(0, Check.SPSEL, 0);
            check.one(Check.BACK).with(Check.SPSEL, choice).with(Check.SPSR, 128 + 5).goes(0, Check.SPSEL, 1);
            check.one(Check.BACK).with(Check.SPSEL, choice).with(Check.SPSR, 128 + 16).goes(0, Check.LEVEL, 0, Check.SPSEL, 0);
        }
    }

    private void badBack() {
        check.sentence("else class 14, WHAT 0, and nothing of that.");
        for (int low = 0; low < 16; low++) {
            if (low != 0 && low != 4 && low != 5) {
                for (int choice = 0; choice < 2; choice++) {
                    check.one(Check.BACK).with(Check.SPSEL, choice).with(Check.SPSR, 0xF0000000L + low).with(Check.ELR, 8192)
                            .with(Check.FLAGS, 5).raises(14, 0);
                    check.one(Check.BACK).with(Check.SPSEL, choice).with(Check.SPSR, 0xF0000080L + low).with(Check.MASK, 0)
                            .with(Check.FLAGS, 5).raises(14, 0);
                }
            }
        }
    }

    // ---- the system's parts

    private void systemBoth() {
        check.sentence("l 0: it becomes t, 1: t becomes it");
        int[] keys = {256, 512, 513, 656, 768, 1536, 7810, 128};
        int[] parts = {
            Check.TTBR, Check.SPSR, Check.ELR, Check.ESR, Check.FAR, Check.VBAR, Check.TPIDR, Check.SCTLR,
        };
        for (int i = 0; i < keys.length; i++) {
            for (long value : new long[] {0, 2, -2, Long.MIN_VALUE, Long.MAX_VALUE - 1, 0x123456789ABCDEF0L}) {
                check.one(Check.SYSTEM, 0, keys[i], 3).with(3, value).leaves(parts[i], value);
                check.one(Check.SYSTEM, 1, keys[i], 3).with(parts[i], value).leaves(3, value);
            }
            check.one(Check.SYSTEM, 0, keys[i], 31).with(parts[i], 2).leaves(parts[i], 0);
            check.one(Check.SYSTEM, 1, keys[i], 31).with(parts[i], 2).leaves();
        }
        check.one(Check.SYSTEM, 0, 128, 3).with(3, -1).leaves(Check.SCTLR, -1);
    }

    private void systemStack() {
        check.sentence("520 the stack pointer of level 0");
        for (int choice = 0; choice < 2; choice++) {
            check.one(Check.SYSTEM, 0, 520, 3).with(Check.SPSEL, choice).with(3, -1).leaves(Check.SP0, -1);
            check.one(Check.SYSTEM, 1, 520, 3).with(Check.SPSEL, choice).with(Check.SP0, -2).leaves(3, -2);
        }
        check.one(Check.SYSTEM, 0, 520, 31).leaves(Check.SP0, 0);
    }

    private void systemSmallParts() {
        check.sentence("528 SPSEL (bit 0)");
        for (int choice = 0; choice < 2; choice++) {
            check.one(Check.SYSTEM, 1, 528, 3).with(Check.SPSEL, choice).leaves(3, choice);
            for (long value : new long[] {0, 1, 2, 3, -1, -2, 1L << 32, Long.MIN_VALUE}) {
                check.one(Check.SYSTEM, 0, 528, 3).with(Check.SPSEL, choice).with(3, value).leaves(Check.SPSEL, value & 1);
            }
        }
    }

    private void systemLevel() {
        check.sentence("530 the level * 4 (l 1)");
        check.one(Check.SYSTEM, 1, 530, 3).with(Check.SPSEL, 0).leaves(3, 4);
        check.one(Check.SYSTEM, 1, 530, 3).with(Check.SPSEL, 1).leaves(3, 4);
        check.one(Check.SYSTEM, 1, 530, 31).leaves();
        check.one(Check.SYSTEM, 0, 530, 3).with(3, 0).none();
        check.one(Check.SYSTEM, 0, 530, 3).with(3, 4).none();
    }

    private void systemFlags() {
        check.sentence("6672 N Z C V (bits 31 .. 28), 6673 I (bit 7)");
        for (long flags = 0; flags < 16; flags++) {
            for (int level = 0; level < 2; level++) {
                check.one(Check.SYSTEM, 1, 6672, 3).level(level).with(Check.FLAGS, flags).leaves(3, flags * 0x10000000L);
                check.one(Check.SYSTEM, 0, 6672, 3).level(level).with(3, flags << 28).with(Check.FLAGS, 15 - flags)
                        .leaves(Check.FLAGS, flags);
                check.one(Check.SYSTEM, 0, 6672, 3).level(level).with(3, flags << 28 | 0xFFFFFFFF0FFFFFFFL).leaves(Check.FLAGS, flags);
            }
        }
        for (int mask = 0; mask < 2; mask++) {
            check.one(Check.SYSTEM, 1, 6673, 3).with(Check.MASK, mask).leaves(3, 128 * mask);
            check.one(Check.SYSTEM, 0, 6673, 3).with(Check.MASK, 1 - mask).with(3, 128 * mask).leaves(Check.MASK, mask);
            check.one(Check.SYSTEM, 0, 6673, 3).with(3, ~128L | 128 * mask).leaves(Check.MASK, mask);
        }
    }

    private static boolean isKey(int key) {
        for (int one : KEYS) {
            if (one == key) {
                return true;
            }
        }
        return false;
    }

    private void systemOthers() {
        check.sentence("others none (so is 530 with l 0), at any level.");
        for (int level = 0; level < 2; level++) {
            check.one(Check.SYSTEM, 0, 530, 3).level(level).none();
            check.one(Check.SYSTEM, 0, 530, 31).level(level).none();
            for (int key : KEYS) {
                // the keys beside those that are known
                for (int near : new int[] {key - 1, key + 1, key ^ 8, key ^ 128, key ^ 2048, key ^ 8192}) {
                    if (!isKey(near)) {
                        check.one(Check.SYSTEM, 0, near, 3).level(level).none();
                        check.one(Check.SYSTEM, 1, near, 3).level(level).none();
                    }
                }
            }
            for (int key : new int[] {0, 8191, 8192, 16383}) {
                check.one(Check.SYSTEM, 0, key, 3).level(level).none();
                check.one(Check.SYSTEM, 1, key, 3).level(level).none();
            }
        }
    }

    private void systemAtLevelZero() {
        check.sentence("At level 0 but for 6672 and 7810: class 24");
        // the WHAT of each key with t 0 and l 1, worked out by hand
        int[] whats = {
            0x300401, 0x300801, 0x301003, 0x301005, 0x341005, 0x301001, 0x321001, 0x301405, 0x301801, 0x303001, -1, 0x32D005, -1,
        };
        for (int i = 0; i < KEYS.length; i++) {
            if (whats[i] >= 0) {
                check.one(Check.SYSTEM, 1, KEYS[i], 0).level(0).raises(24, whats[i]);
                if (KEYS[i] != 530) {
                    check.one(Check.SYSTEM, 0, KEYS[i], 0).level(0).raises(24, whats[i] - 1);
                }
            }
        }
        check.one(Check.SYSTEM, 1, 6672, 3).level(0).with(Check.FLAGS, 9).leaves(3, 0x90000000L);
        check.one(Check.SYSTEM, 0, 6672, 3).level(0).with(3, 0x90000000L).leaves(Check.FLAGS, 9);
        check.one(Check.SYSTEM, 1, 7810, 3).level(0).with(Check.TPIDR, -5).leaves(3, -5);
        check.one(Check.SYSTEM, 0, 7810, 3).level(0).with(3, -5).leaves(Check.TPIDR, -5);
    }

    private void systemWhat() {
        check.sentence("WHAT 3 * 2 to the power 20 + (k modulo 8) * 2 to the power 17 + (k / 2048) * 2 to the power 14 + (k / 128 modulo 16) * 1024 + t * 32 + (k / 8 modulo 16) * 2 + l.");
        for (int key : KEYS) {
            for (int t : new int[] {0, 1, 16, 30, 31}) {
                for (int l = 0; l < 2; l++) {
                    if (key != 6672 && key != 7810 && !(key == 530 && l == 0)) {
                        int what = 3 * 1048576 + key % 8 * 131072 + key / 2048 * 16384 + key / 128 % 16 * 1024 + t * 32
                                + key / 8 % 16 * 2 + l;
                        check.one(Check.SYSTEM, l, key, t).level(0).raises(24, what);
                    }
                }
            }
        }
    }

    // ---- settings

    private void setMask() {
        check.sentence("o 3, u 6 and 7: I is 1, 0 if bit 1 of i is");
        for (int mask = 0; mask < 2; mask++) {
            for (int i = 0; i < 16; i++) {
                boolean counts = (i & 2) != 0;
                check.one(Check.SET, 3, i, 6).with(Check.MASK, mask).leaves(Check.MASK, counts ? 1 : mask);
                check.one(Check.SET, 3, i, 7).with(Check.MASK, mask).leaves(Check.MASK, counts ? 0 : mask);
            }
        }
    }

    private void setStack() {
        check.sentence("o 0, u 5: SPSEL is i's lowest bit");
        for (int choice = 0; choice < 2; choice++) {
            for (int i = 0; i < 16; i++) {
                check.one(Check.SET, 0, i, 5).with(Check.SPSEL, choice).leaves(Check.SPSEL, i % 2);
            }
        }
    }

    private void setOthers() {
        check.sentence("others, and at level 0, none.");
        for (int o = 0; o < 8; o++) {
            for (int u = 0; u < 8; u++) {
                boolean known = o == 3 && u >= 6 || o == 0 && u == 5;
                for (int i : new int[] {0, 2, 15}) {
                    check.one(Check.SET, o, i, u).level(0).none();
                    if (!known) {
                        check.one(Check.SET, o, i, u).none();
                        check.one(Check.SET, o, i, u).with(Check.SPSEL, 0).with(Check.MASK, 0).none();
                    }
                }
            }
        }
    }
}
