import java.util.Arrays;
import java.util.Random;

/**
 * Promises 1 to 9 together: random programs with random calls between their steps, on an object and on
 * the model beside it. What one step leaves to the next (tables, masks, handlers) is tried here.
 */
public final class RandomProgramsTest {
    private static final int ROUNDS = 1500;
    private static final int MOST_CALLS = 512;
    /** The calls that the last look at everything needs: all parts, and some words of memory. */
    private static final int LAST_CALLS = 2 * 46 + 64;

    private static final String[] FORMS = {
        Check.NUMBER, Check.SUM, Check.LOGIC, Check.MASKS, Check.MOVE, Check.PLACE, Check.BITS, Check.TWICE,
        Check.CHOOSE, Check.COMPARE, Check.TIMES, Check.HIGH, Check.TWO, Check.ONE, Check.BRANCH, Check.IF,
        Check.ZERO, Check.BIT, Check.TO, Check.SVC, Check.BRK, Check.HINT, Check.BARRIER,
    };
    private static final String[] ACCESSES = {Check.SCALED, Check.SIGNED, Check.INDEXED, Check.PAIR, Check.NEAR};
    private static final int[] KEYS = {128, 256, 520, 528, 530, 512, 513, 656, 768, 1536, 6672, 6673, 7810};
    private static final long[] EDGES = {
        0, 1, -1, -2, Long.MIN_VALUE, Long.MAX_VALUE, 1L << 31, (1L << 31) - 1, 1L << 32, (1L << 32) - 1,
        1 << 30, (1 << 30) - 1, 65536, 65535, 65532, 65528, 1 << 21, 1L << 47, 1L << 48,
    };

    private final Check check = new Check();
    private final Random random = new Random(16);
    private GuardCore core;
    private Model model;
    private int upper;
    private int round;
    private int calls;

    public static void main(String[] args) {
        RandomProgramsTest test = new RandomProgramsTest();
        for (test.round = 0; test.round < ROUNDS && test.check.isFine(); test.round++) {
            test.program();
        }
        test.check.end();
    }

    private void program() {
        core = new GuardCore();
        model = new Model();
        calls = 0;
        setParts();
        if (chance(80)) {
            mapPages();
        }
        while (calls + 9 < MOST_CALLS - LAST_CALLS && check.isFine()) {
            if (chance(25)) {
                callBetween();
            }
            if (chance(12)) {
                set(Check.LEVEL, 0);
            }
            placeInstruction();
            step(1);
            same("low(PC)", core.low(Check.PC), (int) model.part(Check.PC));
        }
        lookAtAll();
    }

    // ---- calls on both

    private void same(String call, long got, long due) {
        calls++;
        check.same("round " + round + " call " + calls + ": " + call, got, due);
    }

    private void poke(int address, int word) {
        same("poke(" + address + ", " + word + ")", core.poke(address, word) ? 1 : 0, model.poke(address, word) ? 1 : 0);
    }

    private void pokeLong(int address, long value) {
        poke(address, (int) value);
        poke(address + 4, (int) (value >>> 32));
    }

    private void peek(int address) {
        same("peek(" + address + ")", core.peek(address), model.peek(address));
    }

    private void set(int part, long value) {
        boolean got = core.set(part, (int) (value >>> 32), (int) value);
        same("set(" + part + ", " + Long.toHexString(value) + ")", got ? 1 : 0, model.set(part, value) ? 1 : 0);
    }

    private void step(int n) {
        same("step(" + n + ")", core.step(n), model.step(n));
    }

    private void look(long address, int what, int level) {
        same("look(" + Long.toHexString(address) + ", " + what + ", " + level + ")",
                core.look((int) (address >>> 32), (int) address, what, level), model.look(address, what, level));
    }

    private void lookAtAll() {
        for (int part = 0; part < 46; part++) {
            same("low(" + part + ")", core.low(part), (int) model.part(part));
            same("high(" + part + ")", core.high(part), (int) (model.part(part) >>> 32));
        }
        for (int i = 0; i < 64; i++) {
            peek(wordPlace(i));
        }
    }

    /** Places near what registers hold: there a program has stored. */
    private int wordPlace(int i) {
        return i < 31 ? (int) model.part(i) & 0xFFFC : random.nextInt(16384) * 4;
    }

    // ---- what programs are made of

    private boolean chance(int percent) {
        return random.nextInt(100) < percent;
    }

    private long anyValue() {
        switch (random.nextInt(4)) {
            case 0:
                return EDGES[random.nextInt(EDGES.length)];
            case 1:
                return random.nextInt(65536) & -1 << random.nextInt(5);
            case 2:
                return random.nextInt(16) * 4096 + (chance(50) ? 0 : 0xFF0 + random.nextInt(16));
            default:
                return random.nextLong() >>> random.nextInt(64);
        }
    }

    private long anySaved() {
        int[] origins = {0, 0, 4, 4, 5, 5, random.nextInt(16)};
        return random.nextLong() & -16 | origins[random.nextInt(origins.length)];
    }

    private void setParts() {
        for (int part = 0; part < 46; part++) {
            set(part, anyValue());
        }
        for (int stack = Check.SP0; stack <= Check.SP1; stack++) {
            set(stack, anyValue() & (chance(80) ? -16 : -1));
        }
        set(Check.PC, random.nextInt(16384) * 4);
        set(Check.SCTLR, 0);
        set(Check.VBAR, chance(80) ? random.nextInt(32) * 2048 : anyValue());
        set(Check.SPSR, anySaved());
    }

    private void mapPages() {
        upper = random.nextInt(16) * 4096;
        int lower = random.nextInt(16) * 4096;
        for (int page = 0; page < 16; page++) {
            pokeLong(lower + 8 * page, anyEntry(page, chance(90) ? 3 : random.nextInt(4)));
        }
        pokeLong(upper, chance(85) ? lower | 3 : anyEntry(0, random.nextInt(3)));
        set(Check.TTBR, upper | (chance(20) ? random.nextLong() & 0xFFFF000000000FFFL : 0));
        set(Check.SCTLR, 1);
    }

    private long anyEntry(int page, int lowest) {
        long frame = lowest == 1 ? 0 : chance(60) ? page * 4096 : chance(95) ? random.nextInt(16) * 4096 : anyValue() & -4096;
        long entry = frame & 0xFFFFFFFFF000L | lowest;
        entry |= chance(92) ? 1 << 10 : 0;
        entry |= chance(60) ? 1 << 6 : 0;
        entry |= chance(50) ? 1 << 7 : 0;
        entry |= chance(15) ? 1L << 53 : 0;
        entry |= chance(15) ? 1L << 54 : 0;
        return entry | (chance(20) ? random.nextLong() & 0xFF9F000000000B3CL : 0);
    }

    private void callBetween() {
        switch (random.nextInt(14)) {
            case 0 -> interrupt(chance(60));
            case 1 -> set(Check.LEVEL + random.nextInt(3), random.nextInt(4));
            case 2 -> set(Check.PC, anyValue());
            case 3 -> set(random.nextInt(50) - 2, anyValue());
            case 4 -> set(Check.SP0 + random.nextInt(2), anyValue());
            case 5 -> set(Check.SPSR, anySaved());
            case 6 -> set(Check.ELR, random.nextInt(16384) * 4);
            case 7 -> peek(chance(50) ? random.nextInt(65544) - 4 : random.nextInt(16384) * 4);
            case 8 -> look(anyValue(), random.nextInt(5) - 1, random.nextInt(4) - 1);
            case 9 -> look(random.nextInt(20) * 4096 + random.nextInt(4096), random.nextInt(3), random.nextInt(2));
            case 10 -> changeEntry();
            case 11 -> set(Check.SCTLR, 1);
            case 12 -> set(Check.TTBR, upper);
            default -> step(random.nextInt(40) - 1);
        }
    }

    private void interrupt(boolean on) {
        calls++;
        core.interrupt(on);
        model.interrupt(on);
    }

    /** An entry that PC's page was found by, or one beside it, becomes another. */
    private void changeEntry() {
        int lower = model.peek((int) model.part(Check.TTBR) & 0xF000) & 0xF000;
        int page = (int) (chance(60) ? model.part(Check.PC) >>> 12 : random.nextInt(16)) & 15;
        pokeLong(lower + 8 * page, anyEntry(page, 3));
    }

    /** Most steps find an instruction where PC is; where they can't, PC often comes to where they can. */
    private void placeInstruction() {
        int level = (int) model.part(Check.LEVEL);
        int place = model.look(model.part(Check.PC), 2, level);
        if (place < 0 && chance(60)) {
            set(chance(80) ? Check.PC : Check.SCTLR, random.nextInt(16384) * 4);
            place = model.look(model.part(Check.PC), 2, level);
        }
        if (place >= 0 && chance(85)) {
            poke(place & -4, anyInstruction());
        }
    }

    private int anyInstruction() {
        int kind = random.nextInt(100);
        if (kind < 3) {
            return random.nextInt();
        }
        if (kind < 11) {
            return Check.word(Check.BACK);
        }
        if (kind < 22) {
            return Check.word(Check.SYSTEM, random.nextInt(2), KEYS[random.nextInt(KEYS.length)], random.nextInt(32));
        }
        if (kind < 26) {
            int[] settings = {5, 24 + 6, 24 + 7, random.nextInt(64)};
            int setting = settings[random.nextInt(settings.length)];
            return Check.word(Check.SET, setting >>> 3, random.nextInt(16), setting & 7);
        }
        String[] forms = kind < 55 ? ACCESSES : FORMS;
        return anyOf(forms[random.nextInt(forms.length)]) ^ (chance(3) ? 1 << random.nextInt(32) : 0);
    }

    private int anyOf(String form) {
        String[] tokens = form.split(" ");
        long[] fields = new long[tokens.length];
        int used = 0;
        long wide = 0;
        for (String token : tokens) {
            if (!Check.isFixed(token)) {
                fields[used] = anyField(form, token, wide);
                wide = token.equals("s") ? fields[used] : wide;
                used++;
            }
        }
        return Check.word(form, Arrays.copyOf(fields, used));
    }

    /** A field that mostly keeps the instruction from being none, and a program where it is. */
    private long anyField(String form, String token, long wide) {
        boolean tame = chance(85);
        if (tame && token.equals("w") && !form.equals(Check.MASKS)) {
            return wide;
        }
        if (tame && token.equals("o6")) {
            int[] kinds = {2, 3, 8, 9, 10, 11};
            return form.equals(Check.TWO) ? kinds[random.nextInt(6)] : random.nextInt(6);
        }
        if (tame && (token.equals("i14") || token.equals("i19") || token.equals("i26"))) {
            return random.nextInt(41) - 20;
        }
        if (tame && (token.equals("c6") || token.equals("r6") || token.equals("l6"))) {
            return random.nextInt(32);
        }
        if (tame && token.equals("e3")) {
            return random.nextInt(8) | 2;
        }
        return random.nextLong();
    }
}
