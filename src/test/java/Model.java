import java.math.BigInteger;

/**
 * The document written down a second time, in another way and without regard to speed: values are texts
 * of bits, the highest first, and sums are numbers without end. Random programs are held against it.
 */
final class Model {
    private static final int EXTERNAL = 16;
    private static final int ALIGNMENT = 33;

    /** Why an access can't be done. */
    private static final class Fault extends Exception {
        final int what;

        Fault(int what) {
            super(null, null, false, false);
            this.what = what;
        }

        private static final long serialVersionUID = 1;
    }

    /** An exception of the processor; it ends the instruction. */
    private static final class Raised extends Exception {
        final int kind;
        final int what;

        Raised(int kind, int what) {
            super(null, null, false, false);
            this.kind = kind;
            this.what = what;
        }

        private static final long serialVersionUID = 1;
    }

    private final long[] parts = new long[46];
    private final byte[] memory = new byte[65536];
    private boolean interrupted;
    private String form;
    private String word;
    private long next;

    Model() {
        parts[Check.LEVEL] = 1;
        parts[Check.SPSEL] = 1;
        parts[Check.MASK] = 1;
    }

    // ---- the face

    boolean poke(int address, int value) {
        if (address < 0 || address > 65532 || address % 4 != 0) {
            return false;
        }
        store(address, 4, value);
        return true;
    }

    int peek(int address) {
        return address < 0 || address > 65532 || address % 4 != 0 ? 0 : (int) load(address, 4);
    }

    boolean set(int part, long value) {
        if (part < 0 || part > 45) {
            return false;
        }
        parts[part] = part < Check.FLAGS ? value : value & (part == Check.FLAGS ? 15 : 1);
        return true;
    }

    long part(int part) {
        return part < 0 || part > 45 ? 0 : parts[part];
    }

    void interrupt(boolean on) {
        interrupted = on;
    }

    int look(long address, int what, int level) {
        if (what < 0 || what > 2 || level < 0 || level > 1) {
            return -100;
        }
        try {
            return place(address, 1, what, level);
        } catch (Fault fault) {
            return -1 - fault.what;
        }
    }

    int step(int n) {
        if (n < 0 || n > 2000) {
            return -1;
        }
        int taken = 0;
        for (int i = 0; i < n; i++) {
            taken += isTaken() ? 1 : 0;
        }
        return taken;
    }

    // ---- memory and addresses

    private long load(int place, int size) {
        String bits = "";
        for (int i = 0; i < size; i++) {
            bits = bits(memory[place + i], 8) + bits;
        }
        return number(bits);
    }

    private void store(int place, int size, long value) {
        String bits = bits(value, 8 * size);
        for (int i = 0; i < size; i++) {
            memory[place + i] = (byte) number(bits.substring(8 * (size - 1 - i), 8 * (size - i)));
        }
    }

    private int place(long address, int size, int what, int level) throws Fault {
        BigInteger place = unsigned(address);
        if (place.mod(BigInteger.valueOf(size)).signum() != 0) {
            throw new Fault(ALIGNMENT);
        }
        if (parts[Check.SCTLR] % 2 != 0) {
            place = translated(address, what, level);
        }
        if (place.add(BigInteger.valueOf(size)).compareTo(BigInteger.valueOf(65536)) > 0) {
            throw new Fault(EXTERNAL);
        }
        return place.intValue();
    }

    private BigInteger translated(long address, int what, int level) throws Fault {
        String bits = bits(address, 64);
        if (bits.substring(0, 34).contains("1")) {
            throw new Fault(4 + 2);
        }
        String entry = entry(parts[Check.TTBR], cut(bits, 29, 21), 2);
        if (entry.endsWith("01")) {
            demand(entry, what, level, 2);
            return new BigInteger(cut(entry, 47, 21) + cut(bits, 20, 0), 2);
        }
        if (!entry.endsWith("11")) {
            throw new Fault(4 + 2);
        }
        entry = entry(number(entry), cut(bits, 20, 12), 3);
        if (!entry.endsWith("11")) {
            throw new Fault(4 + 3);
        }
        demand(entry, what, level, 3);
        return new BigInteger(cut(entry, 47, 12) + cut(bits, 11, 0), 2);
    }

    private String entry(long table, String index, int depth) throws Fault {
        BigInteger place = new BigInteger(cut(bits(table, 64), 47, 12) + index + "000", 2);
        if (place.compareTo(BigInteger.valueOf(65528)) > 0) {
            throw new Fault(20 + depth);
        }
        return bits(load(place.intValue(), 8), 64);
    }

    private static void demand(String entry, int what, int level, int depth) throws Fault {
        if (!isOne(entry, 10)) {
            throw new Fault(8 + depth);
        }
        boolean low = isOne(entry, 6);
        boolean fixed = isOne(entry, 7);
        boolean may = switch (what) {
            case 0 -> level == 1 || low;
            case 1 -> !fixed && (level == 1 || low);
            default -> level == 0 ? !isOne(entry, 54) : !isOne(entry, 53) && !(low && !fixed);
        };
        if (!may) {
            throw new Fault(12 + depth);
        }
    }

    // ---- a step

    private boolean isTaken() {
        if (interrupted && parts[Check.MASK] == 0) {
            take(parts[Check.PC], 128);
            return true;
        }
        try {
            fetch();
            next = parts[Check.PC] + 4;
            perform();
            parts[Check.PC] = next;
            return false;
        } catch (Raised raised) {
            parts[Check.ESR] = raised.kind * (1L << 26) + (1L << 25) + raised.what;
            take(parts[Check.PC] + (raised.kind == 21 ? 4 : 0), 0);
            return true;
        }
    }

    private void take(long back, int more) {
        boolean low = parts[Check.LEVEL] == 0;
        String from = low ? "0000" : parts[Check.SPSEL] == 1 ? "0101" : "0100";
        parts[Check.SPSR] = number(bits(parts[Check.FLAGS], 4) + "0".repeat(20) + parts[Check.MASK] + "000" + from);
        parts[Check.ELR] = back;
        int vector = low ? 1024 : parts[Check.SPSEL] == 1 ? 512 : 0;
        parts[Check.PC] = number(cut(bits(parts[Check.VBAR], 64), 63, 11) + "0".repeat(11)) + vector + more;
        parts[Check.LEVEL] = 1;
        parts[Check.SPSEL] = 1;
        parts[Check.MASK] = 1;
    }

    private void fetch() throws Raised {
        long pc = parts[Check.PC];
        if (pc % 4 != 0) {
            parts[Check.FAR] = pc;
            throw new Raised(34, 0);
        }
        try {
            word = bits(load(place(pc, 4, 2, (int) parts[Check.LEVEL]), 4), 32);
        } catch (Fault fault) {
            parts[Check.FAR] = pc;
            throw new Raised(parts[Check.LEVEL] == 0 ? 32 : 33, fault.what);
        }
    }

    private void perform() throws Raised {
        form = "";
        for (String candidate : Check.FORMS) {
            if (isOf(candidate)) {
                form = candidate;
            }
        }
        switch (form) {
            case Check.NUMBER -> addNumber();
            case Check.SUM -> addMoved();
            case Check.LOGIC -> logic();
            case Check.MASKS -> masks();
            case Check.MOVE -> move();
            case Check.PLACE -> tellPlace();
            case Check.BITS -> moveBits();
            case Check.TWICE -> twice();
            case Check.CHOOSE -> choose();
            case Check.COMPARE -> compare();
            case Check.TIMES -> times();
            case Check.HIGH -> high();
            case Check.TWO -> two();
            case Check.ONE -> one();
            case Check.SCALED, Check.SIGNED, Check.INDEXED -> single();
            case Check.PAIR -> pair();
            case Check.NEAR -> put(f('t'), load(access(parts[Check.PC] + 4 * sf('i'), width() / 8, 0), width() / 8));
            case Check.HINT, Check.BARRIER -> { }
            default -> performFlow();
        }
    }

    private void performFlow() throws Raised {
        switch (form) {
            case Check.BRANCH -> branch();
            case Check.IF -> jump(isMet((int) f('c')));
            case Check.ZERO -> jump(value('t').contains("1") == (f('o') == 1));
            case Check.BIT -> jump(isOne(bits(get(f('t')), 64), (int) (32 * f('b') + f('p'))) == (f('o') == 1));
            case Check.TO -> toRegister();
            case Check.SVC -> throw new Raised(21, (int) f('i'));
            case Check.BRK -> throw new Raised(60, (int) f('i'));
            case Check.BACK -> back();
            case Check.SYSTEM -> system();
            case Check.SET -> setting();
            default -> throw new Raised(0, 0);
        }
    }

    private static void noneIf(boolean wrong) throws Raised {
        if (wrong) {
            throw new Raised(0, 0);
        }
    }

    // ---- the fields of the word

    private boolean isOf(String candidate) {
        int at = 0;
        for (String token : candidate.split(" ")) {
            if (Check.isFixed(token) && !word.startsWith(token, at)) {
                return false;
            }
            at += Check.isFixed(token) ? token.length() : Check.width(token);
        }
        return true;
    }

    private String field(char name) {
        int at = 0;
        for (String token : form.split(" ")) {
            int width = Check.isFixed(token) ? token.length() : Check.width(token);
            if (token.charAt(0) == name) {
                return word.substring(at, at + width);
            }
            at += width;
        }
        throw new IllegalArgumentException(form + " has no " + name);
    }

    private long f(char name) {
        return number(field(name));
    }

    private long sf(char name) {
        return signed(field(name)).longValue();
    }

    private int width() {
        return f('s') == 1 ? 64 : 32;
    }

    // ---- registers and texts of bits

    private long get(long number) {
        return number == 31 ? 0 : parts[(int) number];
    }

    private void put(long number, long value) {
        if (number != 31) {
            parts[(int) number] = value;
        }
    }

    private int stack() {
        return parts[Check.LEVEL] == 0 || parts[Check.SPSEL] == 0 ? Check.SP0 : Check.SP1;
    }

    private long getOrStack(long number) {
        return parts[number == 31 ? stack() : (int) number];
    }

    private void putOrStack(long number, long value) {
        parts[number == 31 ? stack() : (int) number] = value;
    }

    /** The bits of a register that a field names, as many as W. */
    private String value(char name) {
        return bits(get(f(name)), width());
    }

    private static String bits(long value, int count) {
        String all = Long.toBinaryString(value);
        return ("0".repeat(64) + all).substring(all.length() + 64 - count);
    }

    private static String bits(BigInteger value, int count) {
        return bits(value.longValue(), count);
    }

    private static long number(String bits) {
        return new BigInteger(bits, 2).longValue();
    }

    private static BigInteger unsigned(long value) {
        return new BigInteger(bits(value, 64), 2);
    }

    private static BigInteger signed(String bits) {
        BigInteger value = new BigInteger(bits, 2);
        return bits.startsWith("1") ? value.subtract(BigInteger.ONE.shiftLeft(bits.length())) : value;
    }

    private static boolean isOne(String bits, int place) {
        return bits.charAt(bits.length() - 1 - place) == '1';
    }

    private static String cut(String bits, int from, int to) {
        return bits.substring(bits.length() - 1 - from, bits.length() - to);
    }

    private static String inverted(String bits) {
        return bits.replace('0', '-').replace('1', '0').replace('-', '1');
    }

    private static String moved(String bits, long kind, int count) {
        int kept = bits.length() - count;
        return switch ((int) kind) {
            case 0 -> bits.substring(count) + "0".repeat(count);
            case 1 -> "0".repeat(count) + bits.substring(0, kept);
            case 2 -> bits.substring(0, 1).repeat(count) + bits.substring(0, kept);
            default -> bits.substring(kept) + bits.substring(0, kept);
        };
    }

    // ---- data

    private String added(String left, String right, boolean minus, boolean flags) {
        int width = left.length();
        BigInteger other = new BigInteger(minus ? inverted(right) : right, 2);
        BigInteger total = new BigInteger(left, 2).add(other).add(minus ? BigInteger.ONE : BigInteger.ZERO);
        BigInteger due = minus ? signed(left).subtract(signed(right)) : signed(left).add(signed(right));
        String result = bits(total, width);
        if (flags) {
            String carry = total.testBit(width) ? "1" : "0";
            String wrong = signed(result).equals(due) ? "0" : "1";
            parts[Check.FLAGS] = number(signAndZero(result) + carry + wrong);
        }
        return result;
    }

    private static String signAndZero(String result) {
        return result.charAt(0) + (result.contains("1") ? "0" : "1");
    }

    private void addNumber() {
        String left = bits(getOrStack(f('n')), width());
        String right = bits(f('i') * (f('h') == 1 ? 4096 : 1), width());
        long result = number(added(left, right, f('o') == 1, f('f') == 1));
        if (f('f') == 1) {
            put(f('d'), result);
        } else {
            putOrStack(f('d'), result);
        }
    }

    private void addMoved() throws Raised {
        noneIf(f('k') == 3 || f('c') >= width());
        String right = moved(value('m'), f('k'), (int) f('c'));
        put(f('d'), number(added(value('n'), right, f('o') == 1, f('f') == 1)));
    }

    private long joined(String left, String right) {
        StringBuilder result = new StringBuilder();
        for (int i = 0; i < left.length(); i++) {
            int ones = left.charAt(i) - '0' + right.charAt(i) - '0';
            result.append(switch ((int) f('o')) {
                case 1 -> ones > 0 ? '1' : '0';
                case 2 -> ones == 1 ? '1' : '0';
                default -> ones == 2 ? '1' : '0';
            });
        }
        if (f('o') == 3) {
            parts[Check.FLAGS] = number(signAndZero(result.toString()) + "00");
        }
        return number(result.toString());
    }

    private void logic() throws Raised {
        noneIf(f('c') >= width());
        String right = moved(value('m'), f('k'), (int) f('c'));
        put(f('d'), joined(value('n'), f('v') == 1 ? inverted(right) : right));
    }

    private void masks() throws Raised {
        int e = 6 - (field('w') + inverted(field('l'))).indexOf('1');
        noneIf(e == 0 || e == 7 || f('w') == 1 && f('s') == 0);
        int size = 1 << e;
        int ones = (int) f('l') % size + 1;
        noneIf(ones == size);
        String run = moved("0".repeat(size - ones) + "1".repeat(ones), 3, (int) f('r') % size);
        long result = joined(value('n'), run.repeat(width() / size));
        if (f('o') == 3) {
            put(f('d'), result);
        } else {
            putOrStack(f('d'), result);
        }
    }

    private void move() throws Raised {
        noneIf(f('o') == 1 || f('h') > 1 && f('s') == 0);
        int below = 16 * (int) f('h');
        int above = width() - 16 - below;
        String old = f('o') == 3 ? value('d') : "0".repeat(width());
        String result = old.substring(0, above) + field('i') + old.substring(above + 16);
        put(f('d'), number(f('o') == 0 ? inverted(result) : result));
    }

    private void tellPlace() {
        long distance = signed(field('j') + field('i')).longValue();
        long pc = parts[Check.PC];
        put(f('d'), f('o') == 0 ? pc + distance : number(cut(bits(pc, 64), 63, 12) + "0".repeat(12)) + 4096 * distance);
    }

    private void moveBits() throws Raised {
        int width = width();
        int r = (int) f('r');
        int l = (int) f('l');
        noneIf(f('o') == 3 || f('w') != f('s') || r >= width || l >= width);
        String these = l >= r ? cut(value('n'), l, r) : cut(value('n'), l, 0);
        int below = l >= r ? 0 : width - r;
        int above = width - below - these.length();
        String old = f('o') == 1 ? value('d') : "0".repeat(width);
        String upper = f('o') == 0 ? these.substring(0, 1).repeat(above) : old.substring(0, above);
        put(f('d'), number(upper + these + old.substring(width - below)));
    }

    private void twice() throws Raised {
        noneIf(f('w') != f('s') || f('l') >= width());
        put(f('d'), number(cut(value('n') + value('m'), (int) f('l') + width() - 1, (int) f('l'))));
    }

    private boolean isMet(int condition) {
        boolean n = parts[Check.FLAGS] >= 8;
        boolean z = parts[Check.FLAGS] / 4 % 2 == 1;
        boolean c = parts[Check.FLAGS] / 2 % 2 == 1;
        boolean v = parts[Check.FLAGS] % 2 == 1;
        return switch (condition) {
            case 0 -> z;
            case 2 -> c;
            case 4 -> n;
            case 6 -> v;
            case 8 -> c && !z;
            case 10 -> n == v;
            case 12 -> n == v && !z;
            case 14, 15 -> true;
            default -> !isMet(condition - 1);
        };
    }

    private void choose() {
        if (isMet((int) f('c'))) {
            put(f('d'), number(value('n')));
            return;
        }
        String other = f('o') == 1 ? inverted(value('m')) : value('m');
        put(f('d'), number(added(other, bits(f('u'), width()), false, false)));
    }

    private void compare() {
        if (isMet((int) f('c'))) {
            added(value('n'), f('v') == 1 ? bits(f('m'), width()) : value('m'), f('o') == 1, true);
        } else {
            parts[Check.FLAGS] = f('g');
        }
    }

    private void times() {
        BigInteger product = new BigInteger(value('n'), 2).multiply(new BigInteger(value('m'), 2));
        BigInteger start = new BigInteger(value('a'), 2);
        put(f('d'), number(bits(f('o') == 1 ? start.subtract(product) : start.add(product), width())));
    }

    private void high() {
        String left = bits(get(f('n')), 64);
        String right = bits(get(f('m')), 64);
        BigInteger product = f('u') == 1 ? new BigInteger(left, 2).multiply(new BigInteger(right, 2))
                : signed(left).multiply(signed(right));
        put(f('d'), product.shiftRight(64).longValue());
    }

    private void two() throws Raised {
        int kind = (int) f('o');
        if (kind == 2 || kind == 3) {
            BigInteger left = kind == 3 ? signed(value('n')) : new BigInteger(value('n'), 2);
            BigInteger right = kind == 3 ? signed(value('m')) : new BigInteger(value('m'), 2);
            put(f('d'), right.signum() == 0 ? 0 : number(bits(left.divide(right), width())));
            return;
        }
        noneIf(kind < 8 || kind > 11);
        int count = new BigInteger(value('m'), 2).mod(BigInteger.valueOf(width())).intValue();
        put(f('d'), number(moved(value('n'), kind - 8, count)));
    }

    private void one() throws Raised {
        int kind = (int) f('o');
        noneIf(kind > 5 || kind == 3 && f('s') == 0);
        String value = value('n');
        if (kind == 4) {
            put(f('d'), (value + "1").indexOf('1'));
        } else if (kind == 5) {
            String other = value.startsWith("1") ? "0" : "1";
            put(f('d'), (value + other).indexOf(other) - 1);
        } else {
            put(f('d'), number(turnedRound(value, kind == 0 ? 1 : 8, kind == 0 ? width() : 8 << kind)));
        }
    }

    /** The pieces of each group the other way round. */
    private static String turnedRound(String bits, int piece, int group) {
        StringBuilder result = new StringBuilder();
        for (int start = 0; start < bits.length(); start += group) {
            for (int at = start + group - piece; at >= start; at -= piece) {
                result.append(bits, at, at + piece);
            }
        }
        return result.toString();
    }

    // ---- loads and stores

    private int access(long address, int size, int what) throws Raised {
        try {
            return place(address, size, what, (int) parts[Check.LEVEL]);
        } catch (Fault fault) {
            parts[Check.FAR] = address;
            throw new Raised(parts[Check.LEVEL] == 0 ? 36 : 37, fault.what + 64 * what);
        }
    }

    private long base() throws Raised {
        long base = getOrStack(f('n'));
        if (f('n') == 31 && base % 16 != 0) {
            throw new Raised(38, 0);
        }
        return base;
    }

    private void single() throws Raised {
        int size = 1 << f('z');
        int kind = (int) f('o');
        noneIf(size == 8 && kind >= 2 || size == 4 && kind == 3);
        boolean changes = form.equals(Check.SIGNED) && f('p') != 0;
        long distance = distance(size);
        long base = base();
        long address = changes && f('p') == 1 ? base : base + distance;
        int place = access(address, size, kind == 0 ? 1 : 0);
        if (kind == 0) {
            store(place, size, get(f('t')));
        }
        if (changes) {
            putOrStack(f('n'), base + distance);
        }
        if (kind == 1) {
            put(f('t'), load(place, size));
        } else if (kind > 1) {
            long value = signed(bits(load(place, size), 8 * size)).longValue();
            put(f('t'), kind == 2 ? value : number(bits(value, 32)));
        }
    }

    private long distance(int size) throws Raised {
        if (form.equals(Check.SCALED)) {
            return f('i') * size;
        }
        if (form.equals(Check.SIGNED)) {
            noneIf(f('p') == 2);
            return sf('i');
        }
        int kind = (int) f('e');
        noneIf(kind != 2 && kind != 3 && kind != 6 && kind != 7);
        long value = get(f('m'));
        if (kind == 2) {
            value = number(bits(value, 32));
        } else if (kind == 6) {
            value = signed(bits(value, 32)).longValue();
        }
        return f('q') == 1 ? value * size : value;
    }

    private void pair() throws Raised {
        boolean load = f('o') == 1;
        noneIf(f('z') == 3 || f('p') == 0 || f('z') == 1 && !load);
        int size = f('z') == 2 ? 8 : 4;
        long base = base();
        long moved = base + sf('i') * size;
        long address = f('p') == 1 ? base : moved;
        int lower = access(address, size, load ? 0 : 1);
        int upper = access(address + size, size, load ? 0 : 1);
        if (!load) {
            store(lower, size, get(f('t')));
            store(upper, size, get(f('m')));
        }
        if (f('p') != 2) {
            putOrStack(f('n'), moved);
        }
        if (load) {
            put(f('t'), loaded(lower, size));
            put(f('m'), loaded(upper, size));
        }
    }

    private long loaded(int place, int size) {
        long value = load(place, size);
        return f('z') == 1 ? signed(bits(value, 32)).longValue() : value;
    }

    // ---- branches and the system

    private void jump(boolean taken) {
        if (taken) {
            next = parts[Check.PC] + 4 * sf('i');
        }
    }

    private void branch() {
        if (f('l') == 1) {
            parts[30] = parts[Check.PC] + 4;
        }
        jump(true);
    }

    private void toRegister() throws Raised {
        noneIf(f('o') == 3);
        next = get(f('n'));
        if (f('o') == 1) {
            parts[30] = parts[Check.PC] + 4;
        }
    }

    private void back() throws Raised {
        noneIf(parts[Check.LEVEL] == 0);
        String saved = bits(parts[Check.SPSR], 64);
        String origin = cut(saved, 3, 0);
        if (!origin.equals("0000") && !origin.equals("0100") && !origin.equals("0101")) {
            throw new Raised(14, 0);
        }
        next = parts[Check.ELR];
        parts[Check.FLAGS] = number(cut(saved, 31, 28));
        parts[Check.MASK] = isOne(saved, 7) ? 1 : 0;
        parts[Check.LEVEL] = origin.equals("0000") ? 0 : 1;
        parts[Check.SPSEL] = origin.equals("0101") ? 1 : 0;
    }

    private void system() throws Raised {
        int k = (int) f('k');
        boolean read = f('l') == 1;
        int part = switch (k) {
            case 128 -> Check.SCTLR;
            case 256 -> Check.TTBR;
            case 520 -> Check.SP0;
            case 528 -> Check.SPSEL;
            case 530 -> read ? Check.LEVEL : -1;
            case 512 -> Check.SPSR;
            case 513 -> Check.ELR;
            case 656 -> Check.ESR;
            case 768 -> Check.FAR;
            case 1536 -> Check.VBAR;
            case 6672 -> Check.FLAGS;
            case 6673 -> Check.MASK;
            case 7810 -> Check.TPIDR;
            default -> -1;
        };
        noneIf(part == -1);
        if (parts[Check.LEVEL] == 0 && k != 6672 && k != 7810) {
            throw new Raised(24, 3 * 1048576 + k % 8 * 131072 + k / 2048 * 16384 + k / 128 % 16 * 1024
                    + (int) f('t') * 32 + k / 8 % 16 * 2 + (read ? 1 : 0));
        }
        int zeros = part == Check.FLAGS ? 28 : part == Check.MASK ? 7 : part == Check.LEVEL ? 2 : 0;
        if (read) {
            put(f('t'), number(bits(parts[part], 64 - zeros) + "0".repeat(zeros)));
        } else {
            set(part, number(cut(bits(get(f('t')), 64), 63, zeros)));
        }
    }

    private void setting() throws Raised {
        boolean ofMask = f('o') == 3 && f('u') >= 6;
        boolean ofStack = f('o') == 0 && f('u') == 5;
        noneIf(parts[Check.LEVEL] == 0 || !ofMask && !ofStack);
        if (ofStack) {
            parts[Check.SPSEL] = f('i') % 2;
        } else if (isOne(field('i'), 1)) {
            parts[Check.MASK] = f('u') == 6 ? 1 : 0;
        }
    }
}
