/** Promise 8: step, its counts, the fetch, and the exceptions' way in. */
public final class StepTest {
    private static final int NOP = Check.word(Check.HINT, 0);

    public static void main(String[] args) {
        Check check = new Check();
        numbers(check);
        crookedPc(check);
        fetchFaults(check);
        fetchThroughTables(check);
        exceptions(check);
        unknown(check);
        check.end();
    }

    private static void numbers(Check check) {
        GuardCore core = new GuardCore();
        long[] before = Check.parts(core);
        for (int n : new int[] {-1, 2001, 2002, Integer.MIN_VALUE, Integer.MAX_VALUE}) {
            check.same("step(" + n + ")", core.step(n), GuardCore.NONE);
        }
        check.same("step(0)", core.step(0), 0);
        check.sameParts("after no steps", core, before);
        check.same("2000 exceptions", core.step(2000), 2000);
        check.same("and 3 more", core.step(3), 3);
        GuardCore quiet = new GuardCore();
        quiet.poke(0, NOP);
        quiet.poke(4, Check.word(Check.NUMBER, 1, 0, 0, 0, 1, 0, 0));
        quiet.poke(8, Check.word(Check.BRANCH, 0, -1));
        check.same("2000 quiet steps", quiet.step(2000), 0);
        check.same("of which 1000 count", Check.part(quiet, 0), 1000);
        check.same("PC", Check.part(quiet, Check.PC), 8);
        quiet.poke(8, 0);
        quiet.poke(512, NOP);
        check.same("one exception in two steps", quiet.step(2), 1);
        GuardCore mixed = Check.with(Check.word(Check.SVC, 1));
        mixed.poke(32768 + 512, NOP);
        mixed.poke(32768 + 516, Check.word(Check.BACK));
        mixed.poke(4100, NOP);
        mixed.poke(4104, Check.word(Check.BRK, 2));
        check.same("call, nothing, back, nothing, break", mixed.step(5), 2);
        check.same("ELR", Check.part(mixed, Check.ELR), 4104);
    }

    private static void crookedPc(Check check) {
        for (int off = 1; off < 4; off++) {
            for (int level = 0; level < 2; level++) {
                GuardCore core = Check.with(NOP);
                core.set(Check.LEVEL, 0, level);
                Check.put(core, Check.PC, 0xFFFF000000001000L + off);
                check.same("crooked PC", core.step(1), 1);
                check.same("ESR", Check.part(core, Check.ESR), Check.esr(34, 0));
                check.same("FAR", Check.part(core, Check.FAR), 0xFFFF000000001000L + off);
                check.same("ELR", Check.part(core, Check.ELR), 0xFFFF000000001000L + off);
                check.same("PC", Check.part(core, Check.PC), 32768 + (level == 0 ? 1024 : 512));
            }
        }
    }

    private static void fetchFaults(Check check) {
        for (long pc : new long[] {65536, 1L << 32, 1L << 63, -4}) {
            for (int level = 0; level < 2; level++) {
                GuardCore core = Check.with(NOP);
                core.set(Check.LEVEL, 0, level);
                Check.put(core, Check.PC, pc);
                check.same("fetch beyond", core.step(1), 1);
                check.same("ESR", Check.part(core, Check.ESR), Check.esr(32 + level, 16));
                check.same("FAR", Check.part(core, Check.FAR), pc);
                check.same("ELR", Check.part(core, Check.ELR), pc);
            }
        }
        GuardCore core = new GuardCore();
        core.poke(65532, NOP);
        Check.put(core, Check.PC, 65532);
        check.same("the last word", core.step(1), 0);
        check.same("PC is beyond then", Check.part(core, Check.PC), 65536);
    }

    private static void fetchThroughTables(Check check) {
        long[] entries = {0, 0x2000 | 3, 0x2000 | 1L << 10 | 3, 0x2000 | 1L << 10 | 1L << 54 | 3, 0x2000 | 1L << 10 | 64 | 3};
        int[][] whats = {{7, 7}, {11, 11}, {-1, -1}, {15, -1}, {-1, 15}};
        for (int i = 0; i < entries.length; i++) {
            for (int level = 0; level < 2; level++) {
                GuardCore core = new GuardCore();
                Check.pokeLong(core, 4096, 0x3000 | 3);
                Check.pokeLong(core, 0x3000 + 8 * 9, entries[i]);
                core.poke(0x2010, NOP);
                Check.put(core, Check.TTBR, 4096);
                Check.put(core, Check.SCTLR, 1);
                core.set(Check.LEVEL, 0, level);
                Check.put(core, Check.PC, 0x9010);
                int due = whats[i][level];
                check.same("fetch " + i + " " + level, core.step(1), due < 0 ? 0 : 1);
                check.same("ESR", Check.part(core, Check.ESR), due < 0 ? 0 : Check.esr(32 + level, due));
                check.same("FAR", Check.part(core, Check.FAR), due < 0 ? 0 : 0x9010);
                check.same("level", core.low(Check.LEVEL), due < 0 ? level : 1);
            }
        }
    }

    /** Every part behind an exception, from each of the origins. */
    private static void exceptions(Check check) {
        int[] words = {Check.word(Check.SVC, 0xFFFF), Check.word(Check.BRK, 0xABCD), 0, Check.word(Check.SVC, 0)};
        long[] esrs = {Check.esr(21, 0xFFFF), Check.esr(60, 0xABCD), Check.esr(0, 0), Check.esr(21, 0)};
        for (int i = 0; i < words.length; i++) {
            for (int state = 0; state < 8; state++) {
                int level = state & 1;
                int choice = state >>> 1 & 1;
                int mask = state >>> 2;
                GuardCore core = Check.with(words[i]);
                for (int part = 0; part <= Check.TPIDR; part++) {
                    if (part != Check.PC && part != Check.SCTLR && part != Check.VBAR) {
                        Check.put(core, part, -1000L - part);
                    }
                }
                Check.put(core, Check.VBAR, 0x8000000000008FFFL);
                core.set(Check.FLAGS, 0, 10 - state);
                core.set(Check.LEVEL, 0, level);
                core.set(Check.SPSEL, 0, choice);
                core.set(Check.MASK, 0, mask);
                long[] due = Check.parts(core);
                due[Check.SPSR] = (10L - state << 28) + (mask << 7) + (level == 0 ? 0 : 4 + choice);
                due[Check.ELR] = (i == 0 || i == 3) ? 4100 : 4096;
                due[Check.ESR] = esrs[i];
                due[Check.PC] = 0x8000000000008800L + (level == 0 ? 1024 : 512 * choice);
                due[Check.LEVEL] = 1;
                due[Check.SPSEL] = 1;
                due[Check.MASK] = 1;
                check.same("exception", core.step(1), 1);
                check.sameParts("exception " + i + " from " + state, core, due);
            }
        }
    }

    private static void unknown(Check check) {
        for (int word : new int[] {0, -1, 1, 0xD4000003, 0x1E602000, 0x00000000, 0xD4000002, 0xD4200001}) {
            GuardCore core = Check.with(word);
            check.same("none " + Integer.toHexString(word), core.step(1), 1);
            check.same("ESR", Check.part(core, Check.ESR), Check.esr(0, 0));
            check.same("FAR", Check.part(core, Check.FAR), 0);
            check.same("ELR", Check.part(core, Check.ELR), 4096);
        }
    }
}
