import java.lang.reflect.Constructor;
import java.lang.reflect.Field;
import java.lang.reflect.Method;
import java.lang.reflect.Modifier;
import java.util.Arrays;
import java.util.List;

/** The edges of the face: a test for each sentence about the object, its calls and their arguments. */
public final class FaceEdgesTest {
    private static final int NOP = Check.word(Check.HINT, 0);
    private static final int LEAST = Integer.MIN_VALUE;
    private static final int MOST = Integer.MAX_VALUE;

    private final Check check = new Check();

    public static void main(String[] args) {
        FaceEdgesTest test = new FaceEdgesTest();
        test.face();
        test.calls();
        test.atFirst();
        test.ownMemory();
        test.bytes();
        test.lowestByteFirst();
        test.poke();
        test.peek();
        test.set();
        test.setNumbers();
        test.setFlags();
        test.setSmallParts();
        test.setOthers();
        test.low();
        test.high();
        test.interrupt();
        test.steps();
        test.counts();
        test.wrongSteps();
        test.lookPlaces();
        test.lookFaults();
        test.lookOneByte();
        test.lookLevels();
        test.wrongLooks();
        test.check.end();
    }

    private void face() {
        check.sentence("public final class GuardCore {");
        List<String> due = Arrays.asList("boolean poke(int,int)", "int peek(int)", "boolean set(int,int,int)", "int low(int)",
                "int high(int)", "void interrupt(boolean)", "int step(int)", "int look(int,int,int,int)");
        check.isTrue("public and final", (GuardCore.class.getModifiers() & (Modifier.PUBLIC | Modifier.FINAL))
                == (Modifier.PUBLIC | Modifier.FINAL));
        int methods = 0;
        for (Method method : GuardCore.class.getDeclaredMethods()) {
            if (!Modifier.isPrivate(method.getModifiers()) && !method.isSynthetic()) {
                String face = method.getReturnType() + " " + method.getName()
                        + Arrays.toString(method.getParameterTypes()).replace("[", "(").replace("]", ")").replace(", ", ",");
                check.isTrue(face + " is of the face", due.contains(face) && method.getModifiers() == Modifier.PUBLIC);
                methods++;
            }
        }
        check.same("methods", methods, due.size());
        int fields = 0;
        for (Field field : GuardCore.class.getDeclaredFields()) {
            if (!Modifier.isPrivate(field.getModifiers()) && !field.isSynthetic()) {
                check.isTrue(field.getName(), field.getName().equals("NONE") && field.getType() == int.class
                        && field.getModifiers() == (Modifier.PUBLIC | Modifier.STATIC | Modifier.FINAL));
                fields++;
            }
        }
        check.same("constants", fields, 1);
        check.same("NONE", GuardCore.NONE, -1);
        Constructor<?>[] constructors = GuardCore.class.getDeclaredConstructors();
        check.same("constructors", constructors.length, 1);
        check.isTrue("the constructor", constructors[0].getModifiers() == Modifier.PUBLIC
                && constructors[0].getParameterCount() == 0);
    }

    private void calls() {
        check.sentence("An object is used for at most 512 calls after it has been made");
        GuardCore core = new GuardCore();
        for (int call = 1; call <= 510; call++) {
            check.same("call " + call + " step(2000)", core.step(2000), 2000);
        }
        check.isTrue("call 511 poke", core.poke(65532, -5));
        check.same("call 512 peek", core.peek(65532), -5);
        GuardCore quiet = new GuardCore();
        quiet.poke(0, Check.word(Check.NUMBER, 1, 0, 0, 0, 1, 0, 0));
        quiet.poke(4, Check.word(Check.BRANCH, 0, -1));
        for (int call = 3; call <= 511; call++) {
            check.same("call " + call + " step(2000)", quiet.step(2000), 0);
        }
        check.same("call 512 low(0)", quiet.low(0), 509 * 1000);
    }

    private void atFirst() {
        check.sentence("At first all is 0, but level, SPSEL and I are 1.");
        long[] due = new long[46];
        due[Check.LEVEL] = 1;
        due[Check.SPSEL] = 1;
        due[Check.MASK] = 1;
        check.sameParts("a new object", new GuardCore(), due);
        for (int address : new int[] {0, 4, 4096, 32768, 65528, 65532}) {
            check.same("peek(" + address + ")", new GuardCore().peek(address), 0);
        }
        GuardCore core = Check.with(NOP);
        core.set(Check.MASK, 0, 0);
        check.same("no interrupt is there", core.step(1), 0);
    }

    private void ownMemory() {
        check.sentence("All memory is the class's own.");
        GuardCore one = new GuardCore();
        GuardCore other = new GuardCore();
        one.poke(0, -1);
        one.poke(65532, -1);
        one.set(Check.TPIDR, -1, -1);
        one.interrupt(true);
        other.set(Check.MASK, 0, 0);
        other.poke(4, NOP);
        Check.put(other, Check.PC, 4);
        check.same("the other's first word", other.peek(0), 0);
        check.same("the other's last word", other.peek(65532), 0);
        check.same("the other's part", Check.part(other, Check.TPIDR), 0);
        check.same("the other has no interrupt", other.step(1), 0);
        check.same("one's last word", one.peek(65532), -1);
    }

    private void bytes() {
        check.sentence("MEMORY: the bytes 0 .. 65535");
        check.one(Check.SIGNED, 0, 0, 0, 0, 1, 2).with(1, 0).with(2, 0xAB).leaves().holds(0, 0xAB);
        check.one(Check.SIGNED, 0, 0, 0, 0, 1, 2).with(1, 65535).with(2, 0xAB).leaves().holds(65528, 0xABL << 56);
        check.one(Check.SIGNED, 0, 0, 0, 0, 1, 2).with(1, 65536).raisesAt(65536, 37, 80).holds(0, 0);
        check.one(Check.SIGNED, 0, 0, 0, 0, 1, 2).with(1, -1).raisesAt(-1, 37, 80).holds(65528, 0);
        check.one(Check.SIGNED, 0, 1, 0, 0, 1, 2).with(1, 65535).holding(65528, -1).leaves(2, 255);
        check.one(Check.SIGNED, 0, 1, 0, 0, 1, 2).with(1, 65536).holding(0, -1).raisesAt(65536, 37, 16);
        check.one(Check.SIGNED, 0, 1, 0, 0, 1, 2).with(1, -1).holding(65528, -1).raisesAt(-1, 37, 16);
    }

    private void lowestByteFirst() {
        check.sentence("two, four, eight bytes are numbers, the lowest byte first");
        long number = 0x8877665544332211L;
        for (int z = 0; z < 4; z++) {
            check.one(Check.SCALED, z, 0, 0, 1, 2).with(1, 8192).with(2, number)
                    .leaves().holds(8192, z == 3 ? number : number & (1L << (8 << z)) - 1);
        }
        check.one(Check.SCALED, 0, 1, 0, 1, 2).with(1, 8192).holding(8192, number).leaves(2, 0x11);
        check.one(Check.SCALED, 0, 1, 7, 1, 2).with(1, 8192).holding(8192, number).leaves(2, 0x88);
        check.one(Check.SCALED, 1, 1, 0, 1, 2).with(1, 8192).holding(8192, number).leaves(2, 0x2211);
        check.one(Check.SCALED, 2, 1, 0, 1, 2).with(1, 8192).holding(8192, number).leaves(2, 0x44332211);
        check.one(Check.SCALED, 3, 1, 0, 1, 2).with(1, 8192).holding(8192, number).leaves(2, number);
        GuardCore core = new GuardCore();
        Check.pokeLong(core, 8192, number);
        check.same("the lower word", core.peek(8192), 0x44332211);
        check.same("the upper word", core.peek(8196), 0x88776655);
    }

    private void poke() {
        check.sentence("Four bytes of memory at a multiple of 4 become a word; false when there are none.");
        for (int word : new int[] {0, 1, -1, LEAST, MOST}) {
            for (int address : new int[] {0, 4, 32764, 32768, 65528, 65532}) {
                GuardCore core = new GuardCore();
                core.poke(address, 5);
                check.isTrue("poke(" + address + ", " + word + ")", core.poke(address, word));
                check.same("it is there", core.peek(address), word);
                check.same("the word below", core.peek(address - 4), 0);
                check.same("the word above", core.peek(address + 4), 0);
            }
        }
        GuardCore core = new GuardCore();
        int[] none = {
            1, 2, 3, 5, 65529, 65530, 65531, 65533, 65534, 65535, 65536, 65540, 131072, 1 << 30,
            -1, -2, -3, -4, -8, -65536, LEAST, LEAST + 4, MOST, MOST - 3,
        };
        for (int address : none) {
            check.isFalse("poke(" + address + ")", core.poke(address, -1));
        }
        for (int address : new int[] {0, 4, 8, 65524, 65528, 65532}) {
            check.same("nothing came to " + address, core.peek(address), 0);
        }
    }

    private void peek() {
        check.sentence("The four bytes at a multiple of 4 (0 when there are none there).");
        GuardCore core = new GuardCore();
        for (int address : new int[] {0, 4, 65528, 65532}) {
            core.poke(address, -1 - address);
        }
        for (int address : new int[] {0, 4, 65528, 65532}) {
            check.same("peek(" + address + ")", core.peek(address), -1 - address);
        }
        int[] none = {
            1, 2, 3, 5, 65529, 65530, 65531, 65533, 65534, 65535, 65536, 65540, 131072,
            -1, -2, -3, -4, -8, -65536, LEAST, LEAST + 4, MOST, MOST - 3,
        };
        for (int address : none) {
            check.same("peek(" + address + ")", core.peek(address), 0);
        }
    }

    private void set() {
        check.sentence("A part of the state becomes 2 to the power 32 * high + low (both without sign)");
        int[] halves = {0, 1, -1, LEAST, MOST};
        for (int high : halves) {
            for (int low : halves) {
                GuardCore core = new GuardCore();
                for (int part = 0; part <= Check.TPIDR; part++) {
                    check.isTrue("set(" + part + ")", core.set(part, high, low));
                    check.same("high(" + part + ") of " + high + " " + low, core.high(part), high);
                    check.same("low(" + part + ") of " + high + " " + low, core.low(part), low);
                }
            }
        }
        // each part is another one's neighbour, not the same
        for (int part = 0; part < 46; part++) {
            GuardCore core = new GuardCore();
            long[] due = Check.parts(core);
            due[part] = part < Check.FLAGS ? 0x8000000180000001L : part == Check.FLAGS ? 1 : 0;
            core.set(part, LEAST + 1, part > Check.FLAGS ? LEAST : LEAST + 1);
            check.sameParts("set(" + part + ") alone", core, due);
        }
    }

    /** What the numbers stand for, by instructions that use the parts. */
    private void setNumbers() {
        check.sentence("0 .. 30 registers, 31, 32 the stack pointers, 33 PC, 34 SCTLR, 35 TTBR, 36 VBAR, 37 ELR, 38 SPSR, 39 ESR, 40 FAR, 41 TPIDR");
        for (int number = 0; number <= 30; number++) {
            check.one(Check.SUM, 1, 0, 0, 0, number, 0, 31, 30 - number).with(number, -9 - number).leaves(30 - number, -9 - number);
        }
        check.one(Check.NUMBER, 1, 0, 0, 0, 0, 31, 1).with(Check.SPSEL, 0).with(31, -9).leaves(1, -9);
        check.one(Check.NUMBER, 1, 0, 0, 0, 0, 31, 1).with(Check.SPSEL, 1).with(32, -9).leaves(1, -9);
        check.one(Check.PLACE, 0, 0, 0, 1).at(65532).leaves(1, 65532);
        int[] keys = {128, 256, 1536, 513, 512, 656, 768, 7810};
        for (int i = 0; i < keys.length; i++) {
            check.one(Check.SYSTEM, 1, keys[i], 1).with(34 + i, -8 - 2 * i).leaves(1, -8 - 2 * i);
        }
    }

    private void setFlags() {
        check.sentence("42 N Z C V (the lowest four bits)");
        int[][] rows = {{0, 0, 0}, {0, 15, 15}, {0, 16, 0}, {0, 31, 15}, {-1, -1, 15}, {-1, 0, 0}, {0, LEAST, 0}};
        for (int[] row : rows) {
            GuardCore core = new GuardCore();
            core.set(Check.FLAGS, 0, 5);
            check.isTrue("set(42)", core.set(Check.FLAGS, row[0], row[1]));
            check.same("low(42) of " + row[0] + " " + row[1], core.low(Check.FLAGS), row[2]);
            check.same("high(42)", core.high(Check.FLAGS), 0);
        }
    }

    private void setSmallParts() {
        check.sentence("43 the level, 44 SPSEL, 45 I (the lowest bit each)");
        int[][] rows = {{0, 0, 0}, {0, 1, 1}, {0, 2, 0}, {0, 3, 1}, {-1, -1, 1}, {-1, -2, 0}, {1, 0, 0}, {0, LEAST, 0}};
        for (int part = Check.LEVEL; part <= Check.MASK; part++) {
            for (int[] row : rows) {
                GuardCore core = new GuardCore();
                core.set(part, 0, 1 - row[2]);
                check.isTrue("set(" + part + ")", core.set(part, row[0], row[1]));
                check.same("low(" + part + ") of " + row[0] + " " + row[1], core.low(part), row[2]);
                check.same("high(" + part + ")", core.high(part), 0);
            }
        }
    }

    private void setOthers() {
        check.sentence("false for others");
        GuardCore core = new GuardCore();
        long[] due = Check.parts(core);
        for (int part : new int[] {-1, -2, -46, 46, 47, 64, 128, 256, LEAST, LEAST + 5, MOST}) {
            check.isFalse("set(" + part + ")", core.set(part, -1, -1));
        }
        check.sameParts("nothing changed", core, due);
        check.isTrue("set(0)", core.set(0, 0, 0));
        check.isTrue("set(45)", core.set(45, 0, 0));
    }

    private static GuardCore full() {
        GuardCore core = new GuardCore();
        for (int part = 0; part < 46; part++) {
            core.set(part, -1 - part, -1 - 64 * part);
        }
        return core;
    }

    private void low() {
        check.sentence("A part of the state: its lower 32 bits. 0 for others.");
        GuardCore core = full();
        for (int part = 0; part <= Check.TPIDR; part++) {
            check.same("low(" + part + ")", core.low(part), -1 - 64 * part);
        }
        for (int part : new int[] {-1, -2, -46, 46, 47, 64, 128, LEAST, LEAST + 5, MOST}) {
            check.same("low(" + part + ")", core.low(part), 0);
        }
    }

    private void high() {
        check.sentence("Its upper 32 bits.");
        GuardCore core = full();
        for (int part = 0; part < 46; part++) {
            check.same("high(" + part + ")", core.high(part), part <= Check.TPIDR ? -1 - part : 0);
        }
        for (int part : new int[] {-1, -2, -46, 46, 47, 64, 128, LEAST, LEAST + 5, MOST}) {
            check.same("high(" + part + ")", core.high(part), 0);
        }
    }

    private void interrupt() {
        check.sentence("Whether an interrupt is there.");
        boolean[][] rows = {{false}, {true}, {true, false}, {false, true}, {true, true}, {true, true, false}};
        for (boolean[] row : rows) {
            GuardCore core = Check.with(NOP);
            core.set(Check.MASK, 0, 0);
            for (boolean on : row) {
                core.interrupt(on);
            }
            check.same("interrupt " + row.length, core.step(1), row[row.length - 1] ? 1 : 0);
        }
        GuardCore core = new GuardCore();
        long[] due = Check.parts(core);
        core.interrupt(true);
        check.sameParts("the call alone changes nothing", core, due);
    }

    /** Counts in register 0 with every second step. */
    private static GuardCore counter() {
        GuardCore core = new GuardCore();
        core.poke(256, Check.word(Check.NUMBER, 1, 0, 0, 0, 1, 0, 0));
        core.poke(260, Check.word(Check.BRANCH, 0, -1));
        Check.put(core, Check.PC, 256);
        return core;
    }

    private void steps() {
        check.sentence("So many steps (0 .. 2000)");
        for (int n : new int[] {0, 1, 2, 3, 1000, 1999, 2000}) {
            GuardCore core = counter();
            check.same("step(" + n + ")", core.step(n), 0);
            check.same("low(0) behind step(" + n + ")", core.low(0), (n + 1) / 2);
            check.same("PC", core.low(Check.PC), n % 2 == 0 ? 256 : 260);
        }
        GuardCore due = counter();
        due.set(Check.MASK, 0, 0);
        due.interrupt(true);
        long[] before = Check.parts(due);
        check.same("step(0) takes no interrupt", due.step(0), 0);
        check.sameParts("step(0)", due, before);
    }

    private void counts() {
        check.sentence("how many exceptions and interrupts were taken in them");
        check.same("an exception each", new GuardCore().step(2000), 2000);
        GuardCore core = Check.with(Check.word(Check.SVC, 0));
        core.set(Check.MASK, 0, 0);
        core.interrupt(true);
        // the interrupt, then back with I 1, the call, and nothing
        core.poke(32768 + 640, Check.word(Check.SYSTEM, 0, 512, 1));
        core.poke(32768 + 644, Check.word(Check.BACK));
        Check.put(core, 1, 128 + 5);
        core.poke(32768 + 512, NOP);
        check.same("an interrupt and an exception", core.step(5), 2);
        check.same("PC", core.low(Check.PC), 32768 + 516);
        check.same("a call counts its own alone", core.step(0), 0);
        core.poke(32768 + 516, 0);
        check.same("one more", core.step(1), 1);
        GuardCore again = Check.with(NOP);
        again.set(Check.MASK, 0, 0);
        again.interrupt(true);
        again.poke(32768 + 640, Check.word(Check.SET, 3, 2, 7));
        check.same("taken, allowed again, taken, allowed again", again.step(4), 2);
    }

    private void wrongSteps() {
        check.sentence("NONE for another number");
        for (int n : new int[] {-1, -2, -2000, 2001, 2002, 4000, 65536, LEAST, MOST}) {
            GuardCore core = counter();
            core.set(Check.MASK, 0, 0);
            core.interrupt(true);
            long[] before = Check.parts(core);
            check.same("step(" + n + ")", core.step(n), -1);
            check.sameParts("step(" + n + ")", core, before);
        }
    }

    private void lookPlaces() {
        check.sentence("the place in memory");
        GuardCore core = new GuardCore();
        for (int what = 0; what < 3; what++) {
            for (int level = 0; level < 2; level++) {
                for (int address : new int[] {0, 1, 32767, 32768, 65534, 65535}) {
                    check.same("look(0, " + address + ")", core.look(0, address, what, level), address);
                }
            }
        }
    }

    private void lookFaults() {
        check.sentence("-1 - the WHAT of its fault (without the 64)");
        GuardCore core = new GuardCore();
        for (int what = 0; what < 3; what++) {
            for (int level = 0; level < 2; level++) {
                check.same("look(0, 65536)", core.look(0, 65536, what, level), -17);
                check.same("look(1, 0)", core.look(1, 0, what, level), -17);
                check.same("look(0, -1)", core.look(0, -1, what, level), -17);
                check.same("look(-1, -1)", core.look(-1, -1, what, level), -17);
                check.same("look(least, 0)", core.look(LEAST, 0, what, level), -17);
            }
        }
        core.set(Check.SCTLR, 0, 1);
        for (int what = 0; what < 3; what++) {
            check.same("no block", core.look(0, 0, what, 0), -7);
        }
        long[] before = Check.parts(core);
        core.look(0, 0, 1, 0);
        check.sameParts("a look takes no exception", core, before);
    }

    private void lookOneByte() {
        check.sentence("What an address is for an access (what 0 to load, 1 to store, 2 to execute) of one byte from a level");
        GuardCore core = new GuardCore();
        for (int what = 0; what < 3; what++) {
            for (int address = 65529; address < 65536; address++) {
                check.same("look(0, " + address + ")", core.look(0, address, what, 1), address);
            }
        }
        // a page that may be loaded alone, one that may not be executed, one that is level 1's
        core.set(Check.SCTLR, 0, 1);
        Check.put(core, Check.TTBR, 4096);
        Check.pokeLong(core, 4096, 8192 + 3);
        Check.pokeLong(core, 8192, 1L << 53 | 1L << 54 | 0x3000 | 1024 | 128 | 64 | 3);
        int[] due = {0x3001, -16, -16};
        for (int what = 0; what < 3; what++) {
            for (int level = 0; level < 2; level++) {
                check.same("what " + what + " level " + level, core.look(0, 1, what, level), due[what]);
            }
        }
    }

    private void lookLevels() {
        check.sentence("from a level: the place in memory");
        for (int level = 0; level < 2; level++) {
            GuardCore core = new GuardCore();
            core.set(Check.LEVEL, 0, level);
            core.set(Check.SCTLR, 0, 1);
            Check.put(core, Check.TTBR, 4096);
            Check.pokeLong(core, 4096, 1024 | 1);
            check.same("from 0 at " + level, core.look(0, 77, 0, 0), -15);
            check.same("from 1 at " + level, core.look(0, 77, 0, 1), 77);
        }
    }

    private void wrongLooks() {
        check.sentence("-100 for another what or level");
        GuardCore core = new GuardCore();
        for (int other : new int[] {-1, -2, 3, 4, 256, LEAST, MOST}) {
            check.same("what " + other, core.look(0, 0, other, 0), -100);
            check.same("what " + other + " level 1", core.look(0, 0, other, 1), -100);
            check.same("level " + other, core.look(0, 0, 0, other), -100);
            check.same("both " + other, core.look(0, 0, other, other), -100);
            check.same("beyond memory too", core.look(-1, -1, other, 0), -100);
            check.same("beyond memory too", core.look(-1, -1, 0, other), -100);
        }
        check.same("level 2", core.look(0, 0, 2, 2), -100);
        check.same("level 1", core.look(0, 0, 2, 1), 0);
    }
}
