import java.math.BigInteger;
import java.util.Random;

/**
 * Promise 8: instructions on numbers and registers, against a second telling of the document in
 * texts of bits and big numbers, which shares no way of counting with the class.
 */
public final class DataTest {
    private static final int ROUNDS = 6000;
    private static final long[] EDGES = {
        0, 1, 2, 3, 7, 31, 32, 33, 63, 64, -1, -2, 0x7FFFFFFFL, 0x80000000L, 0xFFFFFFFFL, 0x100000000L,
        0xFFFFFFFF80000000L, 0xFFFFFFFF7FFFFFFFL, Long.MAX_VALUE, Long.MIN_VALUE, 0x5555555555555555L,
        0x00FF00FF00FF00FFL, 0x0123456789ABCDEFL, 0x8000000080000000L,
    };

    private final Check check = new Check();
    private final Random random = new Random(20240607);
    private GuardCore core;
    private long[] before;
    private int word;
    private int width;

    public static void main(String[] args) {
        DataTest test = new DataTest();
        for (int i = 0; i < ROUNDS; i++) {
            test.number();
            test.sum();
            test.logic();
            test.masks();
            test.move();
            test.place();
            test.bits();
            test.twice();
            test.choose();
            test.compare();
            test.times();
            test.high();
            test.two();
            test.one();
        }
        test.written();
        test.check.end();
    }

    // ---- asking

    private long value() {
        switch (random.nextInt(4)) {
            case 0:
                return EDGES[random.nextInt(EDGES.length)];
            case 1:
                return random.nextLong() >>> random.nextInt(64);
            case 2:
                return ~(random.nextLong() >>> random.nextInt(64));
            default:
                return random.nextLong();
        }
    }

    private int any(int bits) {
        return random.nextInt(1 << bits);
    }

    private int register() {
        return random.nextInt(4) == 0 ? 31 : any(5);
    }

    private void start(int instruction, int s) {
        word = instruction;
        width = s == 1 ? 64 : 32;
        core = new GuardCore();
        for (int part = 0; part < 33; part++) {
            Check.put(core, part, value());
        }
        core.set(Check.FLAGS, 0, any(4));
        core.set(Check.LEVEL, 0, any(1));
        core.set(Check.SPSEL, 0, any(1));
        core.poke(4096, word);
        Check.put(core, Check.PC, 4096);
        before = Check.parts(core);
    }

    private void none() {
        check.same("none " + Integer.toHexString(word), core.step(1), 1);
        check.same("ESR " + Integer.toHexString(word), Check.part(core, Check.ESR), Check.esr(0, 0));
        for (int part = 0; part < 33; part++) {
            check.same("none: part " + part, Check.part(core, part), before[part]);
        }
        check.same("none: flags", core.low(Check.FLAGS), before[Check.FLAGS]);
    }

    private void due(int d, boolean stack, String result, int flags) {
        long[] due = before.clone();
        due[Check.PC] += 4;
        due[Check.FLAGS] = flags;
        if (d < 31 || stack) {
            due[d < 31 ? d : stackPart()] = new BigInteger(result, 2).longValue();
        }
        check.same(Integer.toHexString(word), core.step(1), 0);
        check.sameParts(Integer.toHexString(word), core, due);
    }

    private int flags() {
        return (int) before[Check.FLAGS];
    }

    private int stackPart() {
        return before[Check.LEVEL] == 1 && before[Check.SPSEL] == 1 ? Check.SP1 : Check.SP0;
    }

    private long read(int register, boolean stack) {
        return register < 31 ? before[register] : stack ? before[stackPart()] : 0;
    }

    // ---- texts of bits, the highest first

    private String text(long value) {
        return text(value, width);
    }

    private static String text(long value, int width) {
        StringBuilder text = new StringBuilder();
        for (int i = width - 1; i >= 0; i--) {
            text.append((value >>> i & 1) == 0 ? '0' : '1');
        }
        return text.toString();
    }

    private static String fill(char bit, int count) {
        return String.valueOf(bit).repeat(count);
    }

    private static String turned(String bits, int count) {
        int cut = bits.length() - count;
        return bits.substring(cut) + bits.substring(0, cut);
    }

    private static String inverted(String bits) {
        return bits.replace('0', 'x').replace('1', '0').replace('x', '1');
    }

    private String moved(String bits, int kind, int count) {
        String kept = bits.substring(0, width - count);
        switch (kind) {
            case 0:
                return bits.substring(count) + fill('0', count);
            case 1:
                return fill('0', count) + kept;
            case 2:
                return fill(bits.charAt(0), count) + kept;
            default:
                return turned(bits, count);
        }
    }

    private static BigInteger plain(String bits) {
        return new BigInteger(bits, 2);
    }

    private static BigInteger signed(String bits) {
        BigInteger value = plain(bits);
        return bits.charAt(0) == '1' ? value.subtract(BigInteger.ONE.shiftLeft(bits.length())) : value;
    }

    private String wrapped(BigInteger value) {
        StringBuilder text = new StringBuilder();
        for (int i = width - 1; i >= 0; i--) {
            text.append(value.testBit(i) ? '1' : '0');
        }
        return text.toString();
    }

    private static int signAndZero(String bits) {
        return (bits.charAt(0) == '1' ? 8 : 0) + (bits.indexOf('1') < 0 ? 4 : 0);
    }

    private String added(String left, String right, int o) {
        String other = o == 1 ? inverted(right) : right;
        return wrapped(plain(left).add(plain(other)).add(BigInteger.valueOf(o)));
    }

    private int sumFlags(String left, String right, int o) {
        String other = o == 1 ? inverted(right) : right;
        String result = added(left, right, o);
        BigInteger whole = plain(left).add(plain(other)).add(BigInteger.valueOf(o));
        BigInteger exact = o == 1 ? signed(left).subtract(signed(right)) : signed(left).add(signed(right));
        return signAndZero(result) + (whole.testBit(width) ? 2 : 0) + (exact.equals(signed(result)) ? 0 : 1);
    }

    private static String logic(String left, String right, int o) {
        StringBuilder text = new StringBuilder();
        for (int i = 0; i < left.length(); i++) {
            boolean a = left.charAt(i) == '1';
            boolean b = right.charAt(i) == '1';
            text.append((o == 1 ? a || b : o == 2 ? a != b : a && b) ? '1' : '0');
        }
        return text.toString();
    }

    // ---- the instructions

    private void number() {
        int s = any(1), o = any(1), f = any(1), h = any(1), i = any(12), n = register(), d = register();
        start(Check.word(Check.NUMBER, s, o, f, h, i, n, d), s);
        String left = text(read(n, true));
        String right = text(h == 1 ? i * 4096L : i);
        due(d, f == 0, added(left, right, o), f == 1 ? sumFlags(left, right, o) : flags());
    }

    private void sum() {
        int s = any(1), o = any(1), f = any(1), k = any(2), m = register(), c = any(6), n = register(), d = register();
        start(Check.word(Check.SUM, s, o, f, k, m, c, n, d), s);
        if (k == 3 || c >= width) {
            none();
            return;
        }
        String left = text(read(n, false));
        String right = moved(text(read(m, false)), k, c);
        due(d, false, added(left, right, o), f == 1 ? sumFlags(left, right, o) : flags());
    }

    private void logic() {
        int s = any(1), o = any(2), k = any(2), v = any(1), m = register(), c = any(6), n = register(), d = register();
        start(Check.word(Check.LOGIC, s, o, k, v, m, c, n, d), s);
        if (c >= width) {
            none();
            return;
        }
        String right = moved(text(read(m, false)), k, c);
        String result = logic(text(read(n, false)), v == 1 ? inverted(right) : right, o);
        due(d, false, result, o == 3 ? signAndZero(result) : flags());
    }

    private String mask(int w, int r, int l) {
        String lengths = text(w, 1) + inverted(text(l, 6));
        int e = lengths.indexOf('1') < 0 ? -1 : 6 - lengths.indexOf('1');
        if (e < 1 || w == 1 && width == 32) {
            return "";
        }
        int size = 1 << e;
        int count = l % size + 1;
        if (count == size) {
            return "";
        }
        String unit = turned(fill('0', size - count) + fill('1', count), r % size);
        return unit.repeat(width / size);
    }

    private void masks() {
        int s = any(1), o = any(2), w = any(1), r = any(6), l = any(6), n = register(), d = register();
        start(Check.word(Check.MASKS, s, o, w, r, l, n, d), s);
        String mask = mask(w, r, l);
        if (mask.isEmpty()) {
            none();
            return;
        }
        String result = logic(text(read(n, false)), mask, o);
        due(d, o != 3, result, o == 3 ? signAndZero(result) : flags());
    }

    private void move() {
        int s = any(1), o = any(2), h = any(2), i = any(16), d = register();
        start(Check.word(Check.MOVE, s, o, h, i, d), s);
        if (o == 1 || h > 1 && s == 0) {
            none();
            return;
        }
        String old = text(read(d, false));
        int end = width - 16 * h;
        String above = o == 3 ? old.substring(0, end - 16) : fill('0', end - 16);
        String below = o == 3 ? old.substring(end) : fill('0', width - end);
        String result = above + text(i, 16) + below;
        due(d, false, o == 0 ? inverted(result) : result, flags());
    }

    private void place() {
        int o = any(1), i = any(2), j = any(19), d = register();
        start(Check.word(Check.PLACE, o, i, j, d), 1);
        BigInteger number = signed(text(j, 19) + text(i, 2));
        if (o == 1) {
            number = number.multiply(BigInteger.valueOf(4096));
        }
        int pc = 4096 + 4 * any(10);
        core.poke(pc, word);
        Check.put(core, Check.PC, pc);
        before[Check.PC] = pc;
        long base = o == 1 ? pc / 4096 * 4096 : pc;
        due(d, false, wrapped(BigInteger.valueOf(base).add(number)), flags());
    }

    private void bits() {
        int s = any(1), o = any(2), w = random.nextInt(6) == 0 ? 1 - s : s;
        int r = any(6), l = any(6), n = register(), d = register();
        if (s == 0 && any(2) != 0) {
            r &= 31;
            l &= 31;
        }
        start(Check.word(Check.BITS, s, o, w, r, l, n, d), s);
        if (o == 3 || w != s || r >= width || l >= width) {
            none();
            return;
        }
        String source = text(read(n, false));
        String old = text(read(d, false));
        String run = source.substring(width - 1 - l, l >= r ? width - r : width);
        int place = l >= r ? 0 : width - r;
        int above = width - place - run.length();
        String upper = o == 1 ? old.substring(0, above) : fill(o == 0 ? run.charAt(0) : '0', above);
        String lower = o == 1 ? old.substring(width - place) : fill('0', place);
        due(d, false, upper + run + lower, flags());
    }

    private void twice() {
        int s = any(1), w = random.nextInt(6) == 0 ? 1 - s : s, m = register(), l = any(6), n = register(), d = register();
        start(Check.word(Check.TWICE, s, w, m, l, n, d), s);
        if (w != s || l >= width) {
            none();
            return;
        }
        String both = text(read(n, false)) + text(read(m, false));
        due(d, false, both.substring(width - l, 2 * width - l), flags());
    }

    private static boolean holds(int condition, int flags) {
        boolean n = flags >= 8, z = flags / 4 % 2 == 1, c = flags / 2 % 2 == 1, v = flags % 2 == 1;
        boolean[] even = {z, c, n, v, c && !z, n == v, n == v && !z, true};
        return condition >= 14 || even[condition / 2] != (condition % 2 == 1);
    }

    private void choose() {
        int s = any(1), o = any(1), m = register(), c = any(4), u = any(1), n = register(), d = register();
        start(Check.word(Check.CHOOSE, s, o, m, c, u, n, d), s);
        String other = text(read(m, false));
        other = o == 1 ? inverted(other) : other;
        other = wrapped(plain(other).add(BigInteger.valueOf(u)));
        due(d, false, holds(c, flags()) ? text(read(n, false)) : other, flags());
    }

    private void compare() {
        int s = any(1), o = any(1), m = register(), c = any(4), v = any(1), n = register(), g = any(4);
        start(Check.word(Check.COMPARE, s, o, m, c, v, n, g), s);
        String right = text(v == 1 ? m : read(m, false));
        due(31, false, "0", holds(c, flags()) ? sumFlags(text(read(n, false)), right, o) : g);
    }

    private void times() {
        int s = any(1), m = register(), o = any(1), a = register(), n = register(), d = register();
        start(Check.word(Check.TIMES, s, m, o, a, n, d), s);
        BigInteger product = plain(text(read(n, false))).multiply(plain(text(read(m, false))));
        BigInteger first = plain(text(read(a, false)));
        due(d, false, wrapped(o == 1 ? first.subtract(product) : first.add(product)), flags());
    }

    private void high() {
        int u = any(1), m = register(), n = register(), d = register();
        start(Check.word(Check.HIGH, u, m, n, d), 1);
        String left = text(read(n, false));
        String right = text(read(m, false));
        BigInteger product = u == 1 ? plain(left).multiply(plain(right)) : signed(left).multiply(signed(right));
        due(d, false, wrapped(product.shiftRight(64)), flags());
    }

    private void two() {
        int s = any(1), m = register(), o = any(3) == 0 ? any(6) : any(4), n = register(), d = register();
        start(Check.word(Check.TWO, s, m, o, n, d), s);
        String left = text(read(n, false));
        String right = text(read(m, false));
        if (o == 2 || o == 3) {
            BigInteger a = o == 2 ? plain(left) : signed(left);
            BigInteger b = o == 2 ? plain(right) : signed(right);
            due(d, false, wrapped(b.signum() == 0 ? b : a.divide(b)), flags());
        } else if (o >= 8 && o <= 11) {
            int count = plain(right).mod(BigInteger.valueOf(width)).intValue();
            due(d, false, moved(left, o - 8, count), flags());
        } else {
            none();
        }
    }

    private static String bytesTurned(String bits, int bytes) {
        StringBuilder text = new StringBuilder();
        for (int group = 0; group < bits.length(); group += 8 * bytes) {
            for (int i = bytes - 1; i >= 0; i--) {
                text.append(bits, group + 8 * i, group + 8 * i + 8);
            }
        }
        return text.toString();
    }

    private void one() {
        int s = any(1), o = any(3) == 0 ? any(6) : any(3), n = register(), d = register();
        start(Check.word(Check.ONE, s, o, n, d), s);
        String bits = text(read(n, false));
        if (o == 0) {
            due(d, false, new StringBuilder(bits).reverse().toString(), flags());
        } else if (o < 3 || o == 3 && s == 1) {
            due(d, false, bytesTurned(bits, 1 << o), flags());
        } else if (o == 4) {
            int first = bits.indexOf('1');
            due(d, false, text(first < 0 ? width : first), flags());
        } else if (o == 5) {
            int other = bits.indexOf(bits.charAt(0) == '1' ? '0' : '1');
            due(d, false, text((other < 0 ? width : other) - 1), flags());
        } else {
            none();
        }
    }

    /** A few answers written out, so that the second telling is not alone. */
    private void written() {
        long[][] rows = {
            {Check.word(Check.SUM, 1, 1, 1, 0, 2, 0, 1, 0), 5, 7, -2, 8},
            {Check.word(Check.SUM, 1, 1, 1, 0, 2, 0, 1, 0), 7, 7, 0, 6},
            {Check.word(Check.SUM, 0, 0, 1, 0, 2, 0, 1, 0), 0x7FFFFFFF, 1, 0x80000000L, 9},
            {Check.word(Check.SUM, 1, 0, 1, 0, 2, 0, 1, 0), -1, 1, 0, 6},
            {Check.word(Check.TWO, 1, 2, 3, 1, 0), -7, 2, -3, 0},
            {Check.word(Check.TWO, 1, 2, 2, 1, 0), -7, 2, 0x7FFFFFFFFFFFFFFCL, 0},
            {Check.word(Check.TWO, 1, 2, 2, 1, 0), -1, -1, 1, 0},
            {Check.word(Check.TWO, 1, 2, 2, 1, 0), -2, -1, 0, 0},
            {Check.word(Check.TWO, 1, 2, 2, 1, 0), -1, 1, -1, 0},
            {Check.word(Check.TWO, 1, 2, 3, 1, 0), Long.MIN_VALUE, -1, Long.MIN_VALUE, 0},
            {Check.word(Check.TWO, 0, 2, 3, 1, 0), 0x80000000L, 0xFFFFFFFFL, 0x80000000L, 0},
            {Check.word(Check.TWO, 1, 2, 3, 1, 0), 9, 0, 0, 0},
            {Check.word(Check.TWO, 1, 2, 2, 1, 0), 9, 0, 0, 0},
            {Check.word(Check.HIGH, 1, 2, 1, 0), -1, -1, -2, 0},
            {Check.word(Check.HIGH, 0, 2, 1, 0), -1, -1, 0, 0},
            {Check.word(Check.MASKS, 1, 1, 0, 0, 60, 31, 0), 0, 0, 0x5555555555555555L, 0},
            {Check.word(Check.MASKS, 0, 1, 0, 1, 60, 31, 0), 0, 0, 0xAAAAAAAAL, 0},
            {Check.word(Check.MASKS, 1, 1, 1, 4, 7, 31, 0), 0, 0, 0xF00000000000000FL, 0},
            {Check.word(Check.BITS, 1, 0, 1, 4, 7, 1, 0), 0x80, 0, -8, 0},
            {Check.word(Check.BITS, 1, 2, 1, 60, 3, 1, 0), 0xFF, 0, 0xF0, 0},
            {Check.word(Check.ONE, 1, 5, 1, 0), 0, 0, 63, 0},
            {Check.word(Check.ONE, 0, 5, 1, 0), 0xFFFF0000L, 0, 15, 0},
            {Check.word(Check.ONE, 0, 4, 1, 0), 1L << 32, 0, 32, 0},
        };
        for (long[] row : rows) {
            GuardCore one = Check.with((int) row[0]);
            Check.put(one, 1, row[1]);
            Check.put(one, 2, row[2]);
            String call = Integer.toHexString((int) row[0]);
            check.same(call, one.step(1), 0);
            check.same(call, Check.part(one, 0), row[3]);
            check.same(call + " flags", one.low(Check.FLAGS), row[4]);
        }
    }
}
