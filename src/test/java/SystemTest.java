/** Promise 8: system parts, settings, and the way back from an exception. */
public final class SystemTest {
    private static final int[] KEYS = {128, 256, 520, 528, 530, 512, 513, 656, 768, 1536, 6672, 6673, 7810};
    private static final int[] PARTS = {
        Check.SCTLR, Check.TTBR, Check.SP0, Check.SPSEL, Check.LEVEL, Check.SPSR, Check.ELR, Check.ESR, Check.FAR,
        Check.VBAR, Check.FLAGS, Check.MASK, Check.TPIDR,
    };

    public static void main(String[] args) {
        Check check = new Check();
        for (int i = 0; i < KEYS.length; i++) {
            reads(check, KEYS[i], PARTS[i]);
            writes(check, KEYS[i], PARTS[i]);
            levelZero(check, KEYS[i], PARTS[i]);
        }
        everyKey(check);
        back(check);
        settings(check);
        nothings(check);
        check.end();
    }

    private static int shift(int part) {
        return part == Check.FLAGS ? 28 : part == Check.MASK ? 7 : part == Check.LEVEL ? 2 : 0;
    }

    private static void reads(Check check, int key, int part) {
        for (int t : new int[] {0, 17, 31}) {
            GuardCore core = Check.with(Check.word(Check.SYSTEM, 1, key, t));
            if (part < Check.FLAGS) {
                Check.put(core, part, 0xFEDCBA9876543210L);
            } else if (part == Check.FLAGS) {
                core.set(part, 0, 13);
            }
            if (t < 31) {
                Check.put(core, t, -1);
            }
            long[] due = Check.parts(core);
            due[Check.PC] = 4100;
            if (t < 31) {
                due[t] = due[part] << shift(part);
            }
            check.same("read " + key, core.step(1), 0);
            check.sameParts("read " + key, core, due);
        }
    }

    private static void writes(Check check, int key, int part) {
        for (long value : new long[] {0, -1, 0x123456789ABCDEF0L, 0x80, ~0x80L, 0xA0000000L, 1, 2}) {
            GuardCore core = Check.with(Check.word(Check.SYSTEM, 0, key, 3));
            Check.put(core, 3, value);
            if (part == Check.FLAGS) {
                core.set(part, 0, 6);
            }
            long[] due = Check.parts(core);
            due[Check.PC] = 4100;
            long kept = part < Check.FLAGS ? -1 : part == Check.FLAGS ? 15 : 1;
            due[part] = value >>> shift(part) & kept;
            if (part == Check.LEVEL) {
                check.same("write " + key, core.step(1), 1);
                check.same("ESR", Check.part(core, Check.ESR), Check.esr(0, 0));
            } else {
                check.same("write " + key, core.step(1), 0);
                check.sameParts("write " + key, core, due);
            }
        }
        GuardCore core = Check.with(Check.word(Check.SYSTEM, 0, 7810, 31));
        Check.put(core, Check.TPIDR, 5);
        core.step(1);
        check.same("ZERO is written", Check.part(core, Check.TPIDR), 0);
    }

    private static void levelZero(Check check, int key, int part) {
        for (int l = 0; l < 2; l++) {
            for (int t : new int[] {0, 21, 31}) {
                GuardCore core = Check.with(Check.word(Check.SYSTEM, l, key, t));
                core.set(Check.LEVEL, 0, 0);
                boolean free = part == Check.FLAGS || part == Check.TPIDR;
                check.same("level 0 " + key, core.step(1), free ? 0 : 1);
                int what = 3 * 1048576 + key % 8 * 131072 + key / 2048 * 16384 + key / 128 % 16 * 1024 + t * 32
                        + key / 8 % 16 * 2 + l;
                long due = free ? 0 : part == Check.LEVEL && l == 0 ? Check.esr(0, 0) : Check.esr(24, what);
                check.same("ESR " + key + " " + l, Check.part(core, Check.ESR), due);
                check.same("ELR " + key, Check.part(core, Check.ELR), free ? 0 : 4096);
                check.same("t " + key, Check.part(core, 0), 0);
            }
        }
    }

    private static void everyKey(Check check) {
        for (int key = 0; key < 16384; key++) {
            GuardCore core = Check.with(0);
            boolean known = false;
            for (int one : KEYS) {
                known |= one == key;
            }
            if (!known) {
                for (int form = 0; form < 4; form++) {
                    core.set(Check.LEVEL, 0, form >>> 1);
                    Check.put(core, Check.ESR, 1);
                    check.same("key " + key, Check.run(core, Check.word(Check.SYSTEM, form & 1, key, 1)), 1);
                    check.same("ESR of key " + key, Check.part(core, Check.ESR), Check.esr(0, 0));
                }
            }
        }
    }

    private static void back(Check check) {
        for (int low = 0; low < 16; low++) {
            for (int flags = 0; flags < 16; flags += 5) {
                for (int mask = 0; mask < 2; mask++) {
                    GuardCore core = Check.with(Check.word(Check.BACK));
                    core.set(Check.FLAGS, 0, 6);
                    Check.put(core, Check.ELR, 0xFFFFFFFFFFFFFFF3L);
                    Check.put(core, Check.SPSR, 0xFFFFFFFF00000000L | (long) flags << 28 | 0x0FFFFF70 | mask << 7 | low);
                    long[] due = Check.parts(core);
                    boolean good = low == 0 || low == 4 || low == 5;
                    if (good) {
                        due[Check.PC] = due[Check.ELR];
                        due[Check.FLAGS] = flags;
                        due[Check.MASK] = mask;
                        due[Check.LEVEL] = low == 0 ? 0 : 1;
                        due[Check.SPSEL] = low == 5 ? 1 : 0;
                    } else {
                        due[Check.PC] = 32768 + 512;
                        due[Check.ELR] = 4096;
                        due[Check.SPSR] = (6L << 28) + 128 + 5;
                        due[Check.ESR] = Check.esr(14, 0);
                    }
                    check.same("back " + low, core.step(1), good ? 0 : 1);
                    check.sameParts("back " + low, core, due);
                }
            }
        }
        GuardCore core = Check.with(Check.word(Check.BACK));
        core.set(Check.LEVEL, 0, 0);
        check.same("back at level 0", core.step(1), 1);
        check.same("ESR", Check.part(core, Check.ESR), Check.esr(0, 0));
    }

    private static void settings(Check check) {
        for (int all = 0; all < 2048; all++) {
            int o = all >>> 8;
            int i = all >>> 4 & 15;
            int u = all >>> 1 & 7;
            int start = all & 1;
            for (int level = 0; level < 2; level++) {
                GuardCore core = Check.with(Check.word(Check.SET, o, i, u));
                core.set(Check.LEVEL, 0, level);
                core.set(Check.MASK, 0, start);
                core.set(Check.SPSEL, 0, start);
                long[] due = Check.parts(core);
                due[Check.PC] = 4100;
                boolean known = level == 1 && (o == 3 && u >= 6 || o == 0 && u == 5);
                if (o == 3 && (i & 2) != 0) {
                    due[Check.MASK] = u == 6 ? 1 : 0;
                } else if (o == 0) {
                    due[Check.SPSEL] = i & 1;
                }
                check.same("set " + all, core.step(1), known ? 0 : 1);
                if (known) {
                    check.sameParts("set " + all, core, due);
                } else {
                    check.same("ESR", Check.part(core, Check.ESR), Check.esr(0, 0));
                }
            }
        }
    }

    private static void nothings(Check check) {
        for (int i = 0; i < 128; i++) {
            for (int level = 0; level < 2; level++) {
                GuardCore core = Check.with(Check.word(i % 2 == 0 ? Check.HINT : Check.BARRIER, i));
                core.set(Check.LEVEL, 0, level);
                long[] due = Check.parts(core);
                due[Check.PC] = 4100;
                check.same("nothing " + i, core.step(1), 0);
                check.sameParts("nothing " + i, core, due);
            }
        }
    }
}
