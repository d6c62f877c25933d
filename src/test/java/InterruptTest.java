/** Promise 7: interrupt. */
public final class InterruptTest {
    private static final int NOP = Check.word(Check.HINT, 0);

    public static void main(String[] args) {
        Check check = new Check();
        masked(check);
        taken(check);
        turnedOff(check);
        aheadOfAll(check);
        check.end();
    }

    private static void masked(Check check) {
        GuardCore core = Check.with(NOP);
        core.interrupt(true);
        check.same("a masked one is not taken", core.step(1), 0);
        check.same("PC goes on", Check.part(core, Check.PC), 4100);
    }

    private static void taken(Check check) {
        for (int from = 0; from < 3; from++) {
            GuardCore core = Check.with(NOP);
            core.set(Check.LEVEL, 0, from == 0 ? 0 : 1);
            core.set(Check.SPSEL, 0, from == 2 ? 1 : 0);
            core.set(Check.MASK, 0, 0);
            core.set(Check.FLAGS, 0, 9);
            Check.put(core, Check.ESR, 77);
            Check.put(core, Check.FAR, 78);
            Check.put(core, Check.VBAR, 32768 + 2047);
            core.interrupt(true);
            check.same("taken from " + from, core.step(1), 1);
            int vector = from == 0 ? 1024 : from == 1 ? 0 : 512;
            int origin = from == 0 ? 0 : from == 1 ? 4 : 5;
            check.same("PC", Check.part(core, Check.PC), 32768 + vector + 128);
            check.same("SPSR", Check.part(core, Check.SPSR), (9L << 28) + origin);
            check.same("ELR", Check.part(core, Check.ELR), 4096);
            check.same("ESR stays", Check.part(core, Check.ESR), 77);
            check.same("FAR stays", Check.part(core, Check.FAR), 78);
            check.same("NZCV stay", core.low(Check.FLAGS), 9);
            for (int part = Check.LEVEL; part <= Check.MASK; part++) {
                check.same("part " + part, core.low(part), 1);
            }
            core.poke(32768 + vector + 128, NOP);
            check.same("then it is masked", core.step(1), 0);
            core.set(Check.MASK, 0, 0);
            check.same("it is there until it goes", core.step(1), 1);
        }
    }

    private static void turnedOff(Check check) {
        GuardCore core = Check.with(NOP);
        core.set(Check.MASK, 0, 0);
        core.interrupt(true);
        core.interrupt(true);
        core.interrupt(false);
        check.same("none is there", core.step(1), 0);
    }

    private static void aheadOfAll(Check check) {
        GuardCore core = Check.with(0);
        core.set(Check.MASK, 0, 0);
        core.interrupt(true);
        Check.put(core, Check.PC, 4098);
        check.same("ahead of a PC that is no multiple of 4", core.step(1), 1);
        check.same("ELR", Check.part(core, Check.ELR), 4098);
        check.same("ESR", Check.part(core, Check.ESR), 0);
        check.same("PC", Check.part(core, Check.PC), 32768 + 512 + 128);
    }
}
