/** Promise 9: look, and with it the walk through the tables. */
public final class LookTest {
    private static final long ACCESS = 1L << 10;
    private static final int LOAD = 0, STORE = 1, EXECUTE = 2;

    public static void main(String[] args) {
        Check check = new Check();
        wrongQuestions(check);
        translationOff(check);
        permissions(check);
        tables(check);
        looksBeyondMemory(check);
        framesAndOffsets(check);
        nothingChanges(check);
        check.end();
    }

    /** Tables at 4096 (level 2) and 8192 (level 3), translation on. */
    private static GuardCore mapped() {
        GuardCore core = new GuardCore();
        Check.put(core, Check.TTBR, 4096);
        Check.put(core, Check.SCTLR, 1);
        Check.pokeLong(core, 4096, 8192 + 3);
        return core;
    }

    private static int look(GuardCore core, long address, int what, int level) {
        return core.look((int) (address >>> 32), (int) address, what, level);
    }

    private static void wrongQuestions(Check check) {
        GuardCore core = new GuardCore();
        int[] wrong = {-1, 3, 4, Integer.MIN_VALUE, Integer.MAX_VALUE};
        for (int what : wrong) {
            check.same("look what " + what, core.look(0, 0, what, 0), -100);
            check.same("look beyond, what " + what, core.look(-1, 0, what, 0), -100);
        }
        for (int level : new int[] {-1, 2, 3, Integer.MIN_VALUE, Integer.MAX_VALUE}) {
            check.same("look level " + level, core.look(0, 0, 0, level), -100);
        }
    }

    private static void translationOff(Check check) {
        GuardCore core = new GuardCore();
        Check.put(core, Check.SCTLR, -2);
        for (int what = LOAD; what <= EXECUTE; what++) {
            for (int level = 0; level < 2; level++) {
                for (int address : new int[] {0, 1, 3, 4097, 65535}) {
                    check.same("off " + address, look(core, address, what, level), address);
                }
                for (long address : new long[] {65536, 1L << 31, 1L << 32, 1L << 63, -1}) {
                    check.same("off " + address, look(core, address, what, level), -17);
                }
            }
        }
    }

    private static void permissions(Check check) {
        for (int bits = 0; bits < 32; bits++) {
            boolean access = (bits & 1) != 0;
            boolean shared = (bits & 2) != 0;
            boolean fixed = (bits & 4) != 0;
            boolean no1 = (bits & 8) != 0;
            boolean no0 = (bits & 16) != 0;
            long entry = (access ? ACCESS : 0) | (shared ? 64 : 0) | (fixed ? 128 : 0)
                    | (no1 ? 1L << 53 : 0) | (no0 ? 1L << 54 : 0);
            GuardCore core = mapped();
            Check.pokeLong(core, 8192 + 8 * 5, entry | 0x3000 | 3);
            Check.pokeLong(core, 4096 + 8 * 7, entry | 1);
            boolean[][] may = {
                {shared, true}, {shared && !fixed, !fixed}, {!no0, !no1 && !(shared && !fixed)},
            };
            for (int what = LOAD; what <= EXECUTE; what++) {
                for (int level = 0; level < 2; level++) {
                    String call = "entry " + Long.toHexString(entry) + " what " + what + " level " + level;
                    boolean good = access && may[what][level];
                    int fault = access ? 12 : 8;
                    check.same("page " + call, look(core, 0x5123, what, level), good ? 0x3123 : -1 - fault - 3);
                    check.same("block " + call, look(core, 7L << 21 | 0xF123, what, level),
                            good ? 0xF123 : -1 - fault - 2);
                }
            }
        }
    }

    private static void tables(Check check) {
        for (int kind = 0; kind < 4; kind++) {
            GuardCore core = mapped();
            Check.pokeLong(core, 4096 + 8, ACCESS | 0x2000 | kind);
            Check.pokeLong(core, 8192, ACCESS | 0x3000 | kind);
            int[] upper = {-7, 0, -7, kind == 3 ? 0x3000 : -8};
            check.same("level 2 kind " + kind, look(core, 1L << 21, LOAD, 1), upper[kind]);
            check.same("level 3 kind " + kind, look(core, 0, LOAD, 1), kind == 3 ? 0x3000 : -8);
        }
        GuardCore core = mapped();
        for (int bit = 30; bit < 64; bit++) {
            check.same("bit " + bit, look(core, 1L << bit, LOAD, 1), -7);
        }
        Check.pokeLong(core, 4096 + 8 * 511, ACCESS | 0x2000 | 3);
        Check.pokeLong(core, 8192 + 8 * 511, ACCESS | 0xF000 | 3);
        check.same("the highest address", look(core, (1L << 30) - 1, STORE, 1), 0xFFFF);
        check.same("one page below", look(core, (1L << 30) - 1 - 4096, STORE, 1), -8);
        Check.put(core, Check.TTBR, ~0xFFFFFFFFF000L | 4096);
        check.same("TTBR's other bits are 0", look(core, (1L << 30) - 1, STORE, 1), 0xFFFF);
    }

    private static void looksBeyondMemory(Check check) {
        GuardCore core = mapped();
        Check.put(core, Check.TTBR, 65536);
        check.same("TTBR at the end", look(core, 0, LOAD, 1), -23);
        Check.put(core, Check.TTBR, 1L << 47);
        check.same("TTBR far beyond", look(core, 0, LOAD, 1), -23);
        Check.put(core, Check.TTBR, 61440);
        Check.pokeLong(core, 65528, 61440 + 3 | ACCESS);
        check.same("the last eight bytes are a table and a page", look(core, 0x3FFFF008L, LOAD, 1), 61448);
        Check.pokeLong(core, 61440, 65536 + 3);
        check.same("level 3 at the end", look(core, 0, LOAD, 1), -24);
        Check.pokeLong(core, 61440, 1L << 47 | 3);
        check.same("level 3 far beyond", look(core, 0, LOAD, 1), -24);
    }

    private static void framesAndOffsets(Check check) {
        GuardCore core = mapped();
        long noise = 0xFF8F000000000B1CL & ~(1L << 53 | 1L << 54) | ACCESS;
        Check.pokeLong(core, 8192, noise | 0x7000 | 3);
        check.same("a page's other bits do nothing", look(core, 0xFFF, LOAD, 1), 0x7FFF);
        Check.pokeLong(core, 8192, ACCESS | 0x10000 | 3);
        check.same("a page beyond memory", look(core, 0, LOAD, 1), -17);
        Check.pokeLong(core, 8192, ACCESS | 1L << 47 | 3);
        check.same("bit 47 counts", look(core, 0, LOAD, 1), -17);
        Check.pokeLong(core, 8192, ACCESS | 1L << 48 | 3);
        check.same("bit 48 does not", look(core, 0, LOAD, 1), 0);
        Check.pokeLong(core, 4096 + 8, ACCESS | 0x1FF000 | 1);
        check.same("a block's bits 20 .. 12 do nothing", look(core, 1L << 21 | 0x2345, LOAD, 1), 0x2345);
        check.same("inside a block, beyond memory", look(core, 1L << 21 | 0x10000, LOAD, 1), -17);
        Check.pokeLong(core, 4096 + 8, ACCESS | 1L << 21 | 1);
        check.same("a block beyond memory", look(core, 1L << 21, LOAD, 1), -17);
        Check.pokeLong(core, 4096 + 16, 0xFFF0000000000000L | 0x2000 | 0xFFC | 3);
        Check.pokeLong(core, 8192, ACCESS | 0x3000 | 3);
        check.same("a table's other bits do nothing", look(core, 2L << 21, LOAD, 0 + 1), 0x3000);
    }

    private static void nothingChanges(Check check) {
        GuardCore core = mapped();
        long[] before = Check.parts(core);
        look(core, -1, STORE, 0);
        look(core, 0, EXECUTE, 1);
        check.sameParts("after looks", core, before);
    }
}
