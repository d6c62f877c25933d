/**
 * Promises 8 and 9 over several steps: what one instruction or call changes holds for the next one, and
 * what only looks changes nothing.
 */
public final class ProgramTest {
    private static final int NOP = Check.word(Check.HINT, 0);
    private static final int BACK = Check.word(Check.BACK);

    /** Tables of the mapped programs, and what makes a page usable by level 1 alone, and by both. */
    private static final int UPPER = 0xC000;
    private static final int LOWER = 0xD000;
    private static final long PAGE = 1024 | 3;
    private static final long FIXED_FOR_BOTH = 1024 | 128 | 64 | 3;
    private static final long OPEN_FOR_BOTH = 1024 | 64 | 3;

    private final Check check = new Check();

    public static void main(String[] args) {
        ProgramTest test = new ProgramTest();
        test.translationByInstruction();
        test.tablesByInstruction();
        test.vectorsByInstruction();
        test.walkForEachFetch();
        test.walkForEachAccess();
        test.ownCodeChanges();
        test.stacks();
        test.callAndBack();
        test.mendedFault();
        test.interruptAndBack();
        test.maskedAtLevelZero();
        test.looksChangeNothing();
        test.check.end();
    }

    private static int system(int l, int key, int t) {
        return Check.word(Check.SYSTEM, l, key, t);
    }

    /** Register d becomes a number. */
    private static int moved(int d, int number) {
        return Check.word(Check.MOVE, 1, 2, 0, number, d);
    }

    private static void place(GuardCore core, int address, int... words) {
        for (int i = 0; i < words.length; i++) {
            core.poke(address + 4 * i, words[i]);
        }
    }

    /** Page 1 is itself for level 1. */
    private static GuardCore mapped(int... words) {
        GuardCore core = Check.with(NOP);
        place(core, 4096, words);
        Check.pokeLong(core, UPPER, LOWER | 3);
        Check.pokeLong(core, LOWER + 8, 4096 | PAGE);
        Check.put(core, Check.TTBR, UPPER);
        return core;
    }

    private void steps(GuardCore core, int n, int taken, long pc) {
        check.same("step(" + n + ")", core.step(n), taken);
        check.same("PC", Check.part(core, Check.PC), pc);
    }

    private void holds(GuardCore core, int part, long due) {
        check.same("part " + part, Check.part(core, part), due);
    }

    private void translationByInstruction() {
        check.sentence("SCTLR (bit 0: translation is on)");
        GuardCore core = mapped(system(0, 128, 0), moved(2, 1));
        Check.pokeLong(core, LOWER + 8, 0x2000 | PAGE);
        place(core, 0x2004, moved(2, 2), system(0, 128, 1), moved(2, 3));
        place(core, 4096 + 12, moved(2, 4));
        Check.put(core, 0, 3);
        Check.put(core, 1, -2);
        steps(core, 2, 0, 4104);
        holds(core, 2, 2);
        steps(core, 2, 0, 4112);
        holds(core, 2, 4);
        holds(core, Check.SCTLR, -2);
    }

    private void tablesByInstruction() {
        check.sentence("level 2, the eight bytes at TTBR's bits 47 .. 12 (others 0)");
        GuardCore core = mapped(system(0, 256, 0), moved(2, 1));
        Check.pokeLong(core, 0xE000, 0xF000 | 3);
        Check.pokeLong(core, 0xF000 + 8, 0x2000 | PAGE);
        place(core, 0x2004, moved(2, 2));
        Check.put(core, Check.SCTLR, 1);
        Check.put(core, 0, 0xFFFF00000000EFFFL);
        steps(core, 2, 0, 4104);
        holds(core, 2, 2);
    }

    private void vectorsByInstruction() {
        check.sentence("Then PC is VBAR (its lowest 11 bits 0) + 1024 from level 0, 512 from level 1 with SPSEL 1");
        GuardCore core = Check.with(system(0, 1536, 0));
        place(core, 4100, Check.word(Check.SVC, 1));
        Check.put(core, 0, 0x5FFF);
        steps(core, 2, 1, 0x5800 + 512);
        place(core, 0x5800 + 512, system(0, 1536, 31), 0);
        steps(core, 2, 1, 512);
    }

    private void walkForEachFetch() {
        check.sentence("a walk through tables in memory for each access");
        GuardCore core = mapped(Check.word(Check.SCALED, 3, 0, 0, 0, 1), moved(2, 1));
        place(core, 0x2004, moved(2, 2), moved(2, 3), moved(2, 4));
        Check.pokeLong(core, LOWER + 8 * 13, LOWER | PAGE);
        Check.put(core, Check.SCTLR, 1);
        Check.put(core, 0, LOWER + 8);
        Check.put(core, 1, 0x2000 | PAGE);
        steps(core, 2, 0, 4104);
        holds(core, 2, 2);
        Check.pokeLong(core, LOWER + 8, 0x2000 | 3);
        steps(core, 1, 1, 32768 + 512);
        holds(core, Check.ESR, Check.esr(33, 11));
        holds(core, Check.FAR, 4104);
        holds(core, 2, 2);
        Check.pokeLong(core, LOWER + 8, 0x2000 | PAGE);
        Check.put(core, Check.PC, 4104);
        steps(core, 1, 0, 4108);
        holds(core, 2, 3);
        Check.pokeLong(core, UPPER, 0);
        steps(core, 1, 1, 32768 + 512);
        holds(core, Check.ESR, Check.esr(33, 6));
    }

    private void walkForEachAccess() {
        check.sentence("a walk through tables in memory for each access");
        int load = Check.word(Check.SCALED, 3, 1, 0, 0, 2);
        int store = Check.word(Check.SCALED, 3, 0, 0, 3, 1);
        GuardCore core = mapped(load, store, load, load);
        Check.pokeLong(core, LOWER + 8 * 5, 0x5000 | PAGE);
        Check.pokeLong(core, LOWER + 8 * 13, LOWER | PAGE);
        Check.pokeLong(core, 0x5000, 55);
        Check.pokeLong(core, 0x6000, 66);
        Check.put(core, Check.SCTLR, 1);
        Check.put(core, 0, 0x5000);
        Check.put(core, 1, 0x6000 | PAGE);
        Check.put(core, 3, LOWER + 8 * 5);
        steps(core, 1, 0, 4100);
        holds(core, 2, 55);
        steps(core, 2, 0, 4108);
        holds(core, 2, 66);
        Check.pokeLong(core, LOWER + 8 * 5, 0);
        steps(core, 1, 1, 32768 + 512);
        holds(core, Check.ESR, Check.esr(37, 7));
        holds(core, 2, 66);
    }

    private void ownCodeChanges() {
        check.sentence("Else the four bytes at PC are fetched");
        GuardCore core = Check.with(moved(2, 1));
        place(core, 4100, Check.word(Check.SCALED, 2, 0, 0, 0, 1), Check.word(Check.BRANCH, 0, -2));
        Check.put(core, 0, 4096);
        Check.put(core, 1, moved(2, 2));
        steps(core, 1, 0, 4100);
        holds(core, 2, 1);
        steps(core, 3, 0, 4100);
        holds(core, 2, 2);
    }

    private void stacks() {
        check.sentence("at level 0 the first one is used, at level 1 the one that SPSEL says (0 or 1)");
        int more = Check.word(Check.NUMBER, 1, 0, 0, 0, 16, 31, 31);
        GuardCore core = Check.with(more);
        place(core, 4100, Check.word(Check.SET, 0, 0, 5), more, more, Check.word(Check.SET, 0, 1, 5), more, BACK, more);
        Check.put(core, Check.ELR, 4096 + 28);
        Check.put(core, Check.SP0, 0x1000);
        Check.put(core, Check.SP1, 0x2000);
        steps(core, 1, 0, 4100);
        holds(core, Check.SP1, 0x2010);
        steps(core, 3, 0, 4112);
        holds(core, Check.SP0, 0x1020);
        steps(core, 2, 0, 4120);
        holds(core, Check.SP0, 0x1020);
        holds(core, Check.SP1, 0x2020);
        steps(core, 2, 0, 4128);
        holds(core, Check.LEVEL, 0);
        holds(core, Check.SP0, 0x1030);
        holds(core, Check.SP1, 0x2020);
        core.set(Check.SPSEL, 0, 1);
        core.poke(4128, more);
        steps(core, 1, 0, 4132);
        holds(core, Check.SP0, 0x1040);
        holds(core, Check.SP1, 0x2020);
    }

    private void callAndBack() {
        check.sentence("ELR: PC (of SVC PC + 4; the PC is that of the instruction).");
        GuardCore core = mapped(moved(0, 7), Check.word(Check.SVC, 9), Check.word(Check.NUMBER, 1, 0, 0, 0, 1, 0, 0));
        Check.pokeLong(core, LOWER + 8, 4096 | FIXED_FOR_BOTH);
        Check.pokeLong(core, LOWER + 8 * 8, 32768 | PAGE | 1L << 54);
        place(core, 32768 + 1024, system(1, 656, 1), Check.word(Check.NUMBER, 1, 0, 0, 0, 5, 0, 0), BACK);
        Check.put(core, Check.SCTLR, 1);
        core.set(Check.LEVEL, 0, 0);
        core.set(Check.MASK, 0, 0);
        core.set(Check.FLAGS, 0, 5);
        steps(core, 2, 1, 32768 + 1024);
        holds(core, Check.LEVEL, 1);
        steps(core, 3, 0, 4104);
        holds(core, Check.LEVEL, 0);
        holds(core, Check.MASK, 0);
        holds(core, Check.FLAGS, 5);
        steps(core, 1, 0, 4108);
        holds(core, 0, 13);
        holds(core, 1, Check.esr(21, 9));
    }

    private void mendedFault() {
        check.sentence("nothing is loaded or stored if either one faults");
        GuardCore core = mapped(Check.word(Check.PAIR, 2, 3, 0, 1, 3, 0, 2), NOP);
        Check.pokeLong(core, LOWER + 8, 4096 | FIXED_FOR_BOTH);
        Check.pokeLong(core, LOWER + 8 * 5, 0x5000 | OPEN_FOR_BOTH);
        Check.pokeLong(core, LOWER + 8 * 8, 32768 | PAGE);
        Check.pokeLong(core, LOWER + 8 * 13, LOWER | PAGE);
        place(core, 32768 + 1024, system(1, 768, 10), Check.word(Check.SCALED, 3, 0, 0, 8, 9), BACK);
        Check.put(core, Check.SCTLR, 1);
        core.set(Check.LEVEL, 0, 0);
        Check.put(core, 0, 0x5FF0);
        Check.put(core, 2, 22);
        Check.put(core, 3, 33);
        Check.put(core, 8, LOWER + 8 * 6);
        Check.put(core, 9, 0x2000 | OPEN_FOR_BOTH);
        steps(core, 1, 1, 32768 + 1024);
        holds(core, Check.ESR, Check.esr(36, 7 + 64));
        holds(core, 0, 0x5FF0);
        check.same("memory at 0x5FF8", Check.peekLong(core, 0x5FF8), 0);
        steps(core, 3, 0, 4096);
        holds(core, 10, 0x6000);
        steps(core, 1, 0, 4100);
        holds(core, 0, 0x5FF8);
        check.same("memory at 0x5FF8", Check.peekLong(core, 0x5FF8), 22);
        check.same("memory at 0x2000", Check.peekLong(core, 0x2000), 33);
    }

    private void interruptAndBack() {
        check.sentence("if an interrupt is there and I is 0, it is taken.");
        GuardCore core = Check.with(Check.word(Check.SET, 3, 2, 7));
        place(core, 4100, NOP, NOP);
        place(core, 32768 + 512 + 128, NOP, BACK);
        core.interrupt(true);
        steps(core, 1, 0, 4100);
        steps(core, 1, 1, 32768 + 512 + 128);
        holds(core, Check.ELR, 4100);
        holds(core, Check.SPSR, 5);
        steps(core, 2, 0, 4100);
        steps(core, 3, 1, 4100);
        core.interrupt(false);
        steps(core, 2, 0, 4108);
        core.interrupt(true);
        steps(core, 1, 1, 32768 + 512 + 128);
        holds(core, Check.ELR, 4108);
    }

    private void maskedAtLevelZero() {
        check.sentence("if an interrupt is there and I is 0, it is taken.");
        for (int level = 0; level < 2; level++) {
            for (int choice = 0; choice < 2; choice++) {
                GuardCore core = Check.with(NOP);
                core.set(Check.LEVEL, 0, level);
                core.set(Check.SPSEL, 0, choice);
                core.interrupt(true);
                steps(core, 1, 0, 4100);
                core.set(Check.MASK, 0, 0);
                check.same("with I 0", core.step(1), 1);
            }
        }
    }

    private void looksChangeNothing() {
        check.sentence("Nothing is promised beyond the answers and state changes described above");
        for (int on = 0; on < 2; on++) {
            GuardCore core = mapped(NOP);
            for (int part = 0; part < 46; part++) {
                if (part != Check.TTBR && part != Check.SCTLR && part != Check.PC) {
                    Check.put(core, part, -2L - part);
                }
            }
            core.set(Check.SCTLR, 0, on);
            core.interrupt(true);
            long[] before = Check.parts(core);
            for (int what = -1; what <= 3; what++) {
                for (int level = -1; level <= 2; level++) {
                    core.look(0, 4096, what, level);
                    core.look(0, 8192, what, level);
                    core.look(-1, -1, what, level);
                }
            }
            core.peek(4096);
            core.peek(4097);
            core.peek(-4);
            for (int part = -1; part <= 46; part += 47) {
                core.low(part);
                core.high(part);
            }
            core.poke(4098, -1);
            core.poke(65536, -1);
            core.set(46, -1, -1);
            core.set(-1, -1, -1);
            core.interrupt(false);
            core.interrupt(true);
            core.step(-1);
            core.step(0);
            core.step(2001);
            check.sameParts("behind looks and refused calls", core, before);
            check.same("peek(4096)", core.peek(4096), NOP);
            check.same("peek(" + UPPER + ")", core.peek(UPPER), LOWER | 3);
        }
    }
}
