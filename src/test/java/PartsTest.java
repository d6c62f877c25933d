/** Promises 4, 5 and 6: set, low and high. */
public final class PartsTest {
    private static final int[] NO_PARTS = {-1, 46, 47, 64, 1000, Integer.MIN_VALUE, Integer.MAX_VALUE};

    public static void main(String[] args) {
        Check check = new Check();
        wholeParts(check);
        smallParts(check);
        others(check);
        meanings(check);
        check.end();
    }

    private static void wholeParts(Check check) {
        GuardCore core = new GuardCore();
        for (int part = 0; part <= Check.TPIDR; part++) {
            check.isTrue("set(" + part + ")", core.set(part, -1 - part, Integer.MIN_VALUE + part));
        }
        for (int part = 0; part <= Check.TPIDR; part++) {
            check.same("high(" + part + ")", core.high(part), -1 - part);
            check.same("low(" + part + ")", core.low(part), Integer.MIN_VALUE + part);
        }
        check.same("NZCV stay", core.low(Check.FLAGS), 0);
        core.set(3, 5, -1);
        check.same("a low that looks negative leaves high", core.high(3), 5);
        core.set(3, 0, 0);
        check.same("back to 0", Check.part(core, 3), 0);
    }

    private static void smallParts(Check check) {
        GuardCore core = new GuardCore();
        for (int part = Check.FLAGS; part <= Check.MASK; part++) {
            int kept = part == Check.FLAGS ? 15 : 1;
            for (int value : new int[] {0, 1, 2, 3, 5, 8, 15, 16, 17, 31, -1, -2, Integer.MIN_VALUE}) {
                check.isTrue("set(" + part + ")", core.set(part, -1, value));
                check.same("low(" + part + ") of " + value, core.low(part), value & kept);
                check.same("high(" + part + ") of " + value, core.high(part), 0);
            }
        }
    }

    private static void others(Check check) {
        GuardCore core = new GuardCore();
        long[] before = Check.parts(core);
        for (int part : NO_PARTS) {
            check.isFalse("set(" + part + ")", core.set(part, -1, -1));
            check.same("low(" + part + ")", core.low(part), 0);
            check.same("high(" + part + ")", core.high(part), 0);
        }
        check.sameParts("after wrong sets", core, before);
    }

    /** What the numbers of the parts stand for, seen by instructions that read them. */
    private static void meanings(Check check) {
        int[] keys = {520, 128, 256, 1536, 513, 512, 656, 768, 7810};
        int[] parts = {
            Check.SP0, Check.SCTLR, Check.TTBR, Check.VBAR, Check.ELR, Check.SPSR, Check.ESR, Check.FAR, Check.TPIDR,
        };
        for (int i = 0; i < keys.length; i++) {
            GuardCore core = Check.with(Check.word(Check.SYSTEM, 1, keys[i], 5));
            core.set(parts[i], 0x12345678 + i, 0x9ABCDEF0 + 2 * i);
            check.same("step(1)", core.step(1), 0);
            check.same("part " + parts[i], Check.part(core, 5), 0x123456789ABCDEF0L + ((long) i << 32) + 2 * i);
        }
        // NZCV are N, Z, C, V from the highest of the four bits on
        int[] conditions = {4, 0, 2, 6};
        for (int i = 0; i < 4; i++) {
            GuardCore core = Check.with(Check.word(Check.CHOOSE, 1, 0, 31, conditions[i], 0, 1, 0));
            Check.put(core, 1, 99);
            core.set(Check.FLAGS, 0, 8 >>> i);
            core.step(1);
            check.same("flag " + i, Check.part(core, 0), 99);
        }
        for (int level = 0; level < 2; level++) {
            for (int choice = 0; choice < 2; choice++) {
                GuardCore core = Check.with(Check.word(Check.NUMBER, 1, 0, 0, 0, 0, 31, 0));
                Check.put(core, Check.SP0, 1000);
                Check.put(core, Check.SP1, 2000);
                core.set(Check.LEVEL, 0, level);
                core.set(Check.SPSEL, 0, choice);
                core.step(1);
                check.same("SP at " + level + " " + choice, Check.part(core, 0), level == 1 && choice == 1 ? 2000 : 1000);
            }
        }
    }
}
