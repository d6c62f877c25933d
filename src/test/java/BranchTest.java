/** Promise 8: branches and conditions. */
public final class BranchTest {
    public static void main(String[] args) {
        Check check = new Check();
        branches(check);
        conditions(check);
        zeros(check);
        bits(check);
        registers(check);
        check.end();
    }

    private static void goes(Check check, String call, GuardCore core, long due) {
        long[] before = Check.parts(core);
        before[Check.PC] = due;
        check.same(call, core.step(1), 0);
        check.sameParts(call, core, before);
    }

    private static void branches(Check check) {
        for (long i : new long[] {0, 1, -1, 2, 33554431, -33554432}) {
            goes(check, "branch " + i, Check.with(Check.word(Check.BRANCH, 0, i)), 4096 + 4 * i);
            GuardCore core = Check.with(Check.word(Check.BRANCH, 1, i));
            core.step(1);
            check.same("to " + i, Check.part(core, Check.PC), 4096 + 4 * i);
            check.same("30", Check.part(core, 30), 4100);
        }
    }

    private static boolean holds(int condition, int flags) {
        boolean n = (flags & 8) != 0, z = (flags & 4) != 0, c = (flags & 2) != 0, v = (flags & 1) != 0;
        boolean[] even = {z, c, n, v, c && !z, n == v, n == v && !z, true};
        return condition == 15 || even[condition / 2] == (condition % 2 == 0);
    }

    private static void conditions(Check check) {
        for (int condition = 0; condition < 16; condition++) {
            for (int flags = 0; flags < 16; flags++) {
                long i = condition % 2 == 0 ? 262143 : -262144;
                GuardCore core = Check.with(Check.word(Check.IF, i, condition));
                core.set(Check.FLAGS, 0, flags);
                goes(check, "if " + condition + " of " + flags, core, holds(condition, flags) ? 4096 + 4 * i : 4100);
            }
        }
    }

    private static void zeros(Check check) {
        long[] values = {0, 1, -1, 1L << 32, 1L << 31, 1L << 63};
        for (long value : values) {
            for (int form = 0; form < 4; form++) {
                int s = form & 1;
                int o = form >>> 1;
                GuardCore core = Check.with(Check.word(Check.ZERO, s, o, -5, 7));
                Check.put(core, 7, value);
                boolean zero = s == 1 ? value == 0 : (int) value == 0;
                goes(check, "zero " + form + " of " + value, core, zero == (o == 0) ? 4096 - 20 : 4100);
            }
        }
        goes(check, "ZERO is 0", Check.with(Check.word(Check.ZERO, 1, 0, 262143, 31)), 4096 + 4 * 262143);
        goes(check, "ZERO is 0", Check.with(Check.word(Check.ZERO, 1, 1, 262143, 31)), 4100);
    }

    private static void bits(Check check) {
        for (int bit = 0; bit < 64; bit++) {
            for (int o = 0; o < 2; o++) {
                for (int on = 0; on < 2; on++) {
                    for (long i : new long[] {8191, -8192}) {
                        GuardCore core = Check.with(Check.word(Check.BIT, bit >>> 5, o, bit & 31, i, 9));
                        Check.put(core, 9, on == 1 ? 1L << bit : ~(1L << bit));
                        goes(check, "bit " + bit + " " + o + " " + on, core, o == on ? 4096 + 4 * i : 4100);
                    }
                }
            }
        }
    }

    private static void registers(Check check) {
        for (int o = 0; o < 3; o++) {
            for (int n : new int[] {0, 5, 30, 31}) {
                GuardCore core = Check.with(Check.word(Check.TO, o, n));
                if (n < 31) {
                    Check.put(core, n, 0xFEDCBA9876543211L);
                }
                Check.put(core, Check.SP1, 64);
                check.same("to " + n, core.step(1), 0);
                check.same("PC", Check.part(core, Check.PC), n < 31 ? 0xFEDCBA9876543211L : 0);
                long link = o == 1 ? 4100 : n == 30 ? 0xFEDCBA9876543211L : 0;
                check.same("30 of " + o, Check.part(core, 30), link);
            }
        }
    }
}
