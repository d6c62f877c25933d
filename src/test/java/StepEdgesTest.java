/** The edges of A STEP and AN EXCEPTION: a test for each sentence about them. */
public final class StepEdgesTest {
    private static final int NOP = Check.word(Check.HINT, 0);

    private final Check check = new Check();

    public static void main(String[] args) {
        StepEdgesTest test = new StepEdgesTest();
        test.stackPointers();
        test.interruptIsTaken();
        test.interruptComesFirst();
        test.crookedPc();
        test.fetch();
        test.fetchFaults();
        test.nextPc();
        test.spsr();
        test.elr();
        test.esr();
        test.noEsrOfAnInterrupt();
        test.vectors();
        test.afterwards();
        test.whats();
        test.classes();
        test.farOfThePair();
        test.sixtyFourMore();
        test.crookedStack();
        test.crookedStackFirst();
        test.noInstruction();
        test.check.end();
    }

    private void stackPointers() {
        check.sentence("at level 0 the first one is used, at level 1 the one that SPSEL says (0 or 1)");
        for (int level = 0; level < 2; level++) {
            for (int choice = 0; choice < 2; choice++) {
                int used = level == 1 && choice == 1 ? Check.SP1 : Check.SP0;
                check.one(Check.NUMBER, 1, 0, 0, 0, 5, 31, 0).level(level).with(Check.SPSEL, choice)
                        .with(Check.SP0, 1000).with(Check.SP1, 2000).leaves(0, used == Check.SP1 ? 2005 : 1005);
                check.one(Check.NUMBER, 1, 0, 0, 0, 5, 1, 31).level(level).with(Check.SPSEL, choice)
                        .with(1, 7).leaves(used, 12);
                check.one(Check.SIGNED, 3, 1, 16, 1, 31, 2).level(level).with(Check.SPSEL, choice)
                        .with(Check.SP0, 8192).with(Check.SP1, 8224).holding(8192, 3).holding(8224, 4)
                        .leaves(2, used == Check.SP1 ? 4 : 3, used, used == Check.SP1 ? 8240 : 8208);
            }
        }
    }

    private void interruptIsTaken() {
        check.sentence("if an interrupt is there and I is 0, it is taken.");
        for (int mask = 0; mask < 2; mask++) {
            for (int there = 0; there < 2; there++) {
                GuardCore core = Check.with(NOP);
                core.set(Check.MASK, 0, mask);
                core.interrupt(there == 1);
                boolean taken = mask == 0 && there == 1;
                check.same("interrupt " + there + " with I " + mask, core.step(1), taken ? 1 : 0);
                check.same("PC", Check.part(core, Check.PC), taken ? 32768 + 512 + 128 : 4100);
            }
        }
        GuardCore core = Check.with(Check.word(Check.NUMBER, 1, 0, 0, 0, 1, 0, 0));
        core.set(Check.MASK, 0, 0);
        core.interrupt(true);
        core.step(1);
        check.same("the instruction is not done", Check.part(core, 0), 0);
    }

    private void interruptComesFirst() {
        check.sentence("Else, if PC is no multiple of 4");
        for (long pc : new long[] {4097, 65536, -1, 4096}) {
            GuardCore core = Check.with(0);
            core.set(Check.MASK, 0, 0);
            core.interrupt(true);
            Check.put(core, Check.PC, pc);
            check.same("an interrupt at " + pc, core.step(1), 1);
            check.same("ESR", Check.part(core, Check.ESR), 0);
            check.same("FAR", Check.part(core, Check.FAR), 0);
            check.same("ELR", Check.part(core, Check.ELR), pc);
            check.same("PC", Check.part(core, Check.PC), 32768 + 512 + 128);
        }
    }

    private void crookedPc() {
        check.sentence("if PC is no multiple of 4: exception of class 34, WHAT 0, FAR is PC.");
        for (long pc : new long[] {1, 2, 3, 4097, 4098, 4099, 65537, -1, -2, -3, Long.MIN_VALUE + 2}) {
            for (int level = 0; level < 2; level++) {
                check.one(Check.HINT, 0).at(pc).level(level).raisesAt(pc, 34, 0);
                check.one(Check.HINT, 0).mapped().at(pc).level(level).raisesAt(pc, 34, 0);
            }
        }
    }

    private void fetch() {
        check.sentence("Else the four bytes at PC are fetched (to execute: no alignment");
        for (int pc : new int[] {0, 4, 8188, 65528, 65532}) {
            check.one(Check.HINT, 0).at(pc).goes(pc + 4);
            check.one(Check.HINT, 0).at(pc).level(0).goes(pc + 4);
        }
        // to execute, where nobody at level 0 may load
        check.one(Check.HINT, 0).mapped().page(1, 4096 | 1024).level(0).goes(4100);
        // the last four bytes of one page, the first of the next elsewhere
        GuardCore core = new GuardCore();
        Check.pokeLong(core, 0xC000, 0xD000 + 3);
        Check.pokeLong(core, 0xD000, 0x3000 | 1024 | 3);
        Check.pokeLong(core, 0xD008, 0x2000 | 1024 | 3);
        core.poke(0x3FFC, Check.word(Check.MOVE, 1, 2, 0, 7, 0));
        core.poke(0x2000, Check.word(Check.MOVE, 1, 2, 0, 8, 1));
        Check.put(core, Check.TTBR, 0xC000);
        Check.put(core, Check.SCTLR, 1);
        Check.put(core, Check.PC, 0xFFC);
        check.same("over a page's end", core.step(2), 0);
        check.same("the first", Check.part(core, 0), 7);
        check.same("the second", Check.part(core, 1), 8);
        check.same("PC", Check.part(core, Check.PC), 0x1004);
    }

    private void fetchFaults() {
        check.sentence("a FAULT: class 32 from level 0, 33 from level 1, FAR is PC");
        for (int level = 0; level < 2; level++) {
            for (long pc : new long[] {65536, 1L << 32, 1L << 63, -4}) {
                check.one(Check.HINT, 0).at(pc).level(level).raisesAt(pc, 32 + level, 16);
            }
            for (long pc : new long[] {1L << 30, 1L << 63, -4, 1 << 21}) {
                check.one(Check.HINT, 0).mapped().at(pc).level(level).raisesAt(pc, 32 + level, 6);
            }
            check.one(Check.HINT, 0).mapped().at(0x5000).level(level).raisesAt(0x5000, 32 + level, 7);
            check.one(Check.HINT, 0).mapped().page(1, 4096).level(level).raisesAt(4096, 32 + level, 11);
            check.one(Check.HINT, 0).mapped().page(1, 4096 | 1024 | 3L << 53).level(level).raisesAt(4096, 32 + level, 15);
            check.one(Check.HINT, 0).mapped().holding(0xC000, 1).level(level).raisesAt(4096, 32 + level, 10);
            check.one(Check.HINT, 0).mapped().holding(0xC000, 1024 | 3L << 53 | 1).level(level).raisesAt(4096, 32 + level, 14);
        }
    }

    private void nextPc() {
        check.sentence("PC is 4 more then, but for branches that are taken and exceptions.");
        check.one(Check.HINT, 0).goes(4100);
        check.one(Check.HINT, 0).at(65532).goes(65536);
        check.one(Check.BRANCH, 0, 0).goes(4096);
        check.one(Check.BRANCH, 0, 2).goes(4104);
        check.one(Check.IF, 2, 0).with(Check.FLAGS, 0).goes(4100);
        check.one(Check.IF, 2, 0).with(Check.FLAGS, 4).goes(4104);
        check.one(Check.ZERO, 1, 0, -2, 1).with(1, 1).goes(4100);
        check.one(Check.BIT, 0, 0, 0, -2, 1).with(1, 1).goes(4100);
        check.one(Check.COMPARE, 1, 0, 1, 0, 0, 1, 3).with(Check.FLAGS, 0).leaves(Check.FLAGS, 3);
        check.one(Check.SVC, 0).raises(21, 0);
        check.one(Check.SCALED, 3, 1, 0, 1, 31).with(1, 8192).goes(4100);
    }

    private void spsr() {
        check.sentence("SPSR becomes N Z C V (bits 31 .. 28), I (bit 7), and 0 from level 0, 4 + SPSEL from level 1 (others 0).");
        for (int flags = 0; flags < 16; flags++) {
            for (int state = 0; state < 8; state++) {
                GuardCore core = Check.with(Check.word(Check.BRK, 0));
                Check.put(core, Check.SPSR, -1);
                core.set(Check.FLAGS, 0, flags);
                core.set(Check.LEVEL, 0, state & 1);
                core.set(Check.SPSEL, 0, state >> 1 & 1);
                core.set(Check.MASK, 0, state >> 2);
                core.step(1);
                long origin = (state & 1) == 0 ? 0 : (state & 2) == 0 ? 4 : 5;
                check.same("SPSR", Check.part(core, Check.SPSR), flags * 0x10000000L + (state >> 2) * 128 + origin);
                check.same("the flags stay", core.low(Check.FLAGS), flags);
            }
        }
    }

    private void elr() {
        check.sentence("ELR: PC (of SVC PC + 4; the PC is that of the instruction).");
        int[] words = {Check.word(Check.BRK, 9), 0, Check.word(Check.SVC, 9), Check.word(Check.SCALED, 0, 1, 0, 1, 2)};
        for (int i = 0; i < words.length; i++) {
            for (int pc : new int[] {0, 4096, 65532}) {
                GuardCore core = new GuardCore();
                core.poke(pc, words[i]);
                Check.put(core, Check.PC, pc);
                Check.put(core, Check.ELR, -1);
                Check.put(core, 1, 65536);
                check.same("step(1)", core.step(1), 1);
                check.same("ELR of " + Integer.toHexString(words[i]), Check.part(core, Check.ELR), i == 2 ? pc + 4 : pc);
            }
        }
        for (long pc : new long[] {-4, -1, 65536}) {
            GuardCore core = new GuardCore();
            Check.put(core, Check.PC, pc);
            core.step(1);
            check.same("ELR of a fetch", Check.part(core, Check.ELR), pc);
        }
        GuardCore level0 = Check.with(Check.word(Check.SVC, 1));
        level0.set(Check.LEVEL, 0, 0);
        level0.step(1);
        check.same("ELR of a call from level 0", Check.part(level0, Check.ELR), 4100);
    }

    private void esr() {
        check.sentence("ESR (but for an interrupt): its class * 2 to the power 26 + 2 to the power 25 + WHAT.");
        int[] words = {0, Check.word(Check.SVC, 65535), Check.word(Check.BRK, 65535), Check.word(Check.BRK, 0)};
        long[] due = {0x02000000L, 0x5600FFFFL, 0xF200FFFFL, 0xF2000000L};
        for (int i = 0; i < words.length; i++) {
            GuardCore core = Check.with(words[i]);
            Check.put(core, Check.ESR, -1);
            core.step(1);
            check.same("ESR of " + Integer.toHexString(words[i]), Check.part(core, Check.ESR), due[i]);
            check.same("its upper half", core.high(Check.ESR), 0);
        }
    }

    private void noEsrOfAnInterrupt() {
        check.sentence("ESR (but for an interrupt)");
        GuardCore core = Check.with(NOP);
        core.set(Check.MASK, 0, 0);
        Check.put(core, Check.ESR, 0x123456789L);
        Check.put(core, Check.FAR, -5);
        core.interrupt(true);
        check.same("step(1)", core.step(1), 1);
        check.same("ESR", Check.part(core, Check.ESR), 0x123456789L);
        check.same("FAR", Check.part(core, Check.FAR), -5);
        check.same("ELR", Check.part(core, Check.ELR), 4096);
    }

    private void vectors() {
        check.sentence("Then PC is VBAR (its lowest 11 bits 0) + 1024 from level 0, 512 from level 1 with SPSEL 1, 0 with SPSEL 0, and 128 for an interrupt");
        long[] vbars = {0, 2047, 2048, 32768 + 2047, 1L << 32, Long.MIN_VALUE, -1};
        long[] starts = {0, 0, 2048, 32768, 1L << 32, Long.MIN_VALUE, -2048};
        int[][] states = {{0, 0, 1024}, {0, 1, 1024}, {1, 1, 512}, {1, 0, 0}};
        for (int i = 0; i < vbars.length; i++) {
            for (int[] state : states) {
                for (int there = 0; there < 2; there++) {
                    GuardCore core = Check.with(0);
                    Check.put(core, Check.VBAR, vbars[i]);
                    core.set(Check.LEVEL, 0, state[0]);
                    core.set(Check.SPSEL, 0, state[1]);
                    core.set(Check.MASK, 0, 0);
                    core.interrupt(there == 1);
                    check.same("step(1)", core.step(1), 1);
                    long due = starts[i] + state[2] + 128 * there;
                    check.same("PC from " + state[0] + " " + state[1], Check.part(core, Check.PC), due);
                    check.same("VBAR stays", Check.part(core, Check.VBAR), vbars[i]);
                }
            }
        }
    }

    private void afterwards() {
        check.sentence("level, SPSEL and I are 1.");
        for (int state = 0; state < 8; state++) {
            for (int there = 0; there < 2; there++) {
                GuardCore core = Check.with(0);
                core.set(Check.LEVEL, 0, state & 1);
                core.set(Check.SPSEL, 0, state >> 1 & 1);
                core.set(Check.MASK, 0, state >> 2);
                core.interrupt(there == 1);
                check.same("step(1)", core.step(1), 1);
                check.same("level", core.low(Check.LEVEL), 1);
                check.same("SPSEL", core.low(Check.SPSEL), 1);
                check.same("I", core.low(Check.MASK), 1);
            }
        }
    }

    private void whats() {
        check.sentence("WHAT of a FAULT: translation 4 + level, access 8 + level, permission 12 + level, a look 20 + level, external 16, alignment 33.");
        long block = 1 << 21;
        check.one(Check.SCALED, 2, 1, 0, 1, 2).mapped().with(1, block).raisesAt(block, 37, 6);
        check.one(Check.SCALED, 2, 1, 0, 1, 2).mapped().with(1, 0x5000).raisesAt(0x5000, 37, 7);
        check.one(Check.SCALED, 2, 1, 0, 1, 2).mapped().holding(0xC008, 1).with(1, block).raisesAt(block, 37, 10);
        check.one(Check.SCALED, 2, 1, 0, 1, 2).mapped().page(5, 0).with(1, 0x5000).raisesAt(0x5000, 37, 11);
        check.one(Check.SCALED, 2, 1, 0, 1, 2).mapped().level(0).holding(0xC008, 1025).with(1, block).raisesAt(block, 36, 14);
        check.one(Check.SCALED, 2, 1, 0, 1, 2).mapped().level(0).page(5, 1024).with(1, 0x5000).raisesAt(0x5000, 36, 15);
        check.one(Check.HINT, 0).mapped().with(Check.TTBR, 65536).raisesAt(4096, 33, 22);
        check.one(Check.SCALED, 2, 1, 0, 1, 2).mapped().holding(0xC008, 65536 + 3).with(1, block).raisesAt(block, 37, 23);
        check.one(Check.SCALED, 2, 1, 0, 1, 2).with(1, 65536).raisesAt(65536, 37, 16);
        check.one(Check.SCALED, 2, 1, 0, 1, 2).with(1, 65534).raisesAt(65534, 37, 33);
    }

    private void classes() {
        check.sentence("Of a load or store: class 36 from level 0, 37 from level 1, FAR the address (of the access that faults)");
        for (int level = 0; level < 2; level++) {
            for (long base : new long[] {65536, -65536, Long.MIN_VALUE}) {
                check.one(Check.SCALED, 3, 1, 1, 1, 2).level(level).with(1, base).raisesAt(base + 8, 36 + level, 16);
                check.one(Check.SIGNED, 3, 1, -8, 3, 1, 2).level(level).with(1, base + 16).raisesAt(base + 8, 36 + level, 16);
                check.one(Check.SIGNED, 3, 1, -8, 1, 1, 2).level(level).with(1, base).raisesAt(base, 36 + level, 16);
                check.one(Check.INDEXED, 3, 1, 4, 3, 1, 1, 2).level(level).with(1, base).with(4, 2).raisesAt(base + 16, 36 + level, 16);
            }
            check.one(Check.NEAR, 1, 16000, 2).level(level).raisesAt(4096 + 64000, 36 + level, 16);
        }
        // SPSEL is of no matter for the class
        check.one(Check.SCALED, 3, 1, 0, 1, 2).with(Check.SPSEL, 0).with(1, 65536).raisesAt(65536, 37, 16);
        check.one(Check.SCALED, 3, 1, 0, 1, 2).level(0).with(Check.SPSEL, 0).with(1, 65536).raisesAt(65536, 36, 16);
    }

    private void farOfThePair() {
        check.sentence("FAR the address (of the access that faults)");
        check.one(Check.PAIR, 2, 2, 1, -1, 3, 1, 2).with(1, 65536).raisesAt(65536, 37, 16);
        check.one(Check.PAIR, 2, 2, 1, 0, 3, 1, 2).with(1, 65536).raisesAt(65536, 37, 16);
        check.one(Check.PAIR, 2, 2, 1, 1, 3, 1, 2).with(1, 65536).raisesAt(65544, 37, 16);
        check.one(Check.PAIR, 0, 2, 1, -1, 3, 1, 2).with(1, 65536).raisesAt(65536, 37, 16);
        check.one(Check.PAIR, 0, 1, 1, -9, 3, 1, 2).with(1, 65532).raisesAt(65536, 37, 16);
    }

    private void sixtyFourMore() {
        check.sentence("WHAT 64 more for a store.");
        check.one(Check.SCALED, 2, 0, 0, 1, 2).with(1, 65536).raisesAt(65536, 37, 80);
        check.one(Check.SCALED, 2, 0, 0, 1, 2).with(1, 65537).raisesAt(65537, 37, 97);
        check.one(Check.SCALED, 2, 0, 0, 1, 2).mapped().with(1, 0x5000).raisesAt(0x5000, 37, 71);
        check.one(Check.PAIR, 2, 2, 0, 0, 3, 1, 2).level(0).with(1, 65528).raisesAt(65536, 36, 80);
        for (int o = 1; o < 4; o++) {
            check.one(Check.SCALED, 1, o, 0, 1, 2).with(1, 65536).raisesAt(65536, 37, 16);
        }
    }

    private void crookedStack() {
        check.sentence("A load's or store's base that is SP and no multiple of 16: class 38, WHAT 0");
        for (int off = 0; off < 32; off++) {
            for (int level = 0; level < 2; level++) {
                int part = level == 0 ? Check.SP0 : Check.SP1;
                One load = check.one(Check.SIGNED, 0, 1, 1, 3, 31, 2).level(level).with(part, 8192 + off).with(Check.FAR, 5);
                One store = check.one(Check.PAIR, 0, 1, 0, 1, 3, 31, 2).level(level).with(part, 8192 + off).with(Check.FAR, 5);
                if (off % 16 == 0) {
                    load.leaves(part, 8193 + off, 2, 0);
                    store.leaves(part, 8196 + off);
                } else {
                    load.raises(38, 0);
                    store.raises(38, 0);
                }
            }
        }
        // another register may be so, and the number 31 where it is no base
        check.one(Check.SCALED, 0, 1, 0, 1, 2).with(1, 8193).leaves(2, 0);
        check.one(Check.SCALED, 0, 0, 0, 1, 31).with(1, 8193).with(Check.SP1, 8193).leaves();
        check.one(Check.INDEXED, 0, 1, 31, 3, 0, 1, 2).with(1, 8193).with(Check.SP1, 8193).leaves(2, 0);
        check.one(Check.NEAR, 1, 2, 31).with(Check.SP1, 8193).leaves();
        check.one(Check.NUMBER, 1, 0, 0, 0, 1, 31, 31).with(Check.SP1, 8193).leaves(Check.SP1, 8194);
        // nor the stack pointer that is not used
        check.one(Check.SCALED, 0, 1, 0, 31, 2).with(Check.SP0, 8193).with(Check.SP1, 8192).leaves(2, 0);
        check.one(Check.SCALED, 0, 1, 0, 31, 2).level(0).with(Check.SP0, 8192).with(Check.SP1, 8193).leaves(2, 0);
        check.one(Check.SCALED, 0, 1, 0, 31, 2).with(Check.SPSEL, 0).with(Check.SP0, 8193).with(Check.SP1, 8192).raises(38, 0);
    }

    private void crookedStackFirst() {
        check.sentence("class 38, WHAT 0, ahead of those.");
        for (long stack : new long[] {65537, 65544, -8, (1L << 30) + 8}) {
            check.one(Check.SCALED, 3, 1, 0, 31, 2).with(Check.SP1, stack).raises(38, 0);
            check.one(Check.SCALED, 3, 0, 0, 31, 2).mapped().with(Check.SP1, stack).raises(38, 0);
            check.one(Check.PAIR, 2, 3, 1, 0, 3, 31, 2).mapped().level(0).with(Check.SP0, stack).raises(38, 0);
        }
        // a base that is good may still make an address that faults
        check.one(Check.SIGNED, 3, 1, 1, 0, 31, 2).with(Check.SP1, 8192).raisesAt(8193, 37, 33);
        check.one(Check.SCALED, 3, 1, 0, 31, 2).with(Check.SP1, 65536).raisesAt(65536, 37, 16);
    }

    private void noInstruction() {
        check.sentence("An instruction that is none of these below: class 0, WHAT 0.");
        int[] words = {0, 1, -1, 0x7FFFFFFF, 0x80000000, 0xD4000002, 0xD4000003, 0xD4400000, 0x1E602800, 0x0E208400, 0x9AC04000};
        for (int word : words) {
            for (int level = 0; level < 2; level++) {
                new One(check, word).level(level).with(Check.FAR, 5).none();
                new One(check, word).level(level).with(Check.MASK, 0).with(Check.SPSEL, 0).none();
            }
        }
    }
}
