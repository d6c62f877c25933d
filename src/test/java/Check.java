/** What the tests share: counting wrong answers, and making instructions from the document's forms. */
final class Check {
    static final int SP0 = 31, SP1 = 32, PC = 33, SCTLR = 34, TTBR = 35, VBAR = 36, ELR = 37, SPSR = 38;
    static final int ESR = 39, FAR = 40, TPIDR = 41, FLAGS = 42, LEVEL = 43, SPSEL = 44, MASK = 45;

    static final String NUMBER = "s o f 100010 h i12 n d";
    static final String SUM = "s o f 01011 k2 0 m c6 n d";
    static final String LOGIC = "s o2 01010 k2 v m c6 n d";
    static final String MASKS = "s o2 100100 w r6 l6 n d";
    static final String MOVE = "s o2 100101 h2 i16 d";
    static final String PLACE = "o i2 10000 j19 d";
    static final String BITS = "s o2 100110 w r6 l6 n d";
    static final String TWICE = "s 00100111 w 0 m l6 n d";
    static final String CHOOSE = "s o 011010100 m c4 0 u n d";
    static final String COMPARE = "s o 111010010 m c4 v 0 n 0 g4";
    static final String TIMES = "s 0011011000 m o a n d";
    static final String HIGH = "10011011 u 10 m 0 11111 n d";
    static final String TWO = "s 0011010110 m o6 n d";
    static final String ONE = "s 101101011000000 o6 n d";
    static final String BRANCH = "l 00101 i26";
    static final String IF = "01010100 i19 0 c4";
    static final String ZERO = "s 011010 o i19 t";
    static final String BIT = "b 011011 o p5 i14 t";
    static final String TO = "110101100 o2 11111000000 n 00000";
    static final String SCALED = "z2 111001 o2 i12 n t";
    static final String SIGNED = "z2 111000 o2 0 i9 p2 n t";
    static final String INDEXED = "z2 111000 o2 1 m e3 q 10 n t";
    static final String PAIR = "z2 10100 p2 o i7 m n t";
    static final String NEAR = "0 s 011000 i19 t";
    static final String SVC = "11010100000 i16 00001";
    static final String BRK = "11010100001 i16 00000";
    static final String HINT = "11010101000000110010 i7 11111";
    static final String BARRIER = "11010101000000110011 i7 11111";
    static final String BACK = "11010110100111110000001111100000";
    static final String SYSTEM = "1101010100 l 11 k14 t";
    static final String SET = "1101010100000 o3 0100 i4 u3 11111";

    /** All forms of the document. */
    static final String[] FORMS = {
        NUMBER, SUM, LOGIC, MASKS, MOVE, PLACE, BITS, TWICE, CHOOSE, COMPARE, TIMES, HIGH, TWO, ONE, BRANCH, IF, ZERO,
        BIT, TO, SCALED, SIGNED, INDEXED, PAIR, NEAR, SVC, BRK, HINT, BARRIER, BACK, SYSTEM, SET,
    };

    private int wrong;
    private String sentence = "";
    private int asked = 1;

    /** The document's words that the answers from here on are about. */
    void sentence(String words) {
        endSentence();
        sentence = words;
        asked = 0;
    }

    /** A sentence without a question would be held by any program. */
    private void endSentence() {
        if (asked == 0) {
            wrong++;
            System.out.println("\"" + sentence + "\": nothing was asked");
        }
    }

    void same(String call, long got, long due) {
        asked++;
        if (got != due) {
            wrong++;
            String about = sentence.isEmpty() ? "" : "\"" + sentence + "\": ";
            System.out.println(about + call + " answered " + got + " (" + Long.toHexString(got) + "), due is "
                    + due + " (" + Long.toHexString(due) + ")");
        }
    }

    /** One instruction on a new object. */
    One one(String form, long... fields) {
        return new One(this, word(form, fields));
    }

    void isTrue(String call, boolean got) {
        same(call, got ? 1 : 0, 1);
    }

    void isFalse(String call, boolean got) {
        same(call, got ? 1 : 0, 0);
    }

    /** Every part of a state against the parts of another one. */
    void sameParts(String call, GuardCore core, long[] due) {
        for (int part = 0; part < due.length; part++) {
            same(call + " part " + part, part(core, part), due[part]);
        }
    }

    boolean isFine() {
        return wrong == 0;
    }

    void end() {
        endSentence();
        System.out.println(wrong == 0 ? "all answers are as due" : wrong + " answers are not as due");
        if (wrong != 0) {
            System.exit(1);
        }
    }

    static int width(String token) {
        if (token.length() > 1) {
            return Integer.parseInt(token.substring(1));
        }
        return "nmdat".indexOf(token.charAt(0)) >= 0 ? 5 : 1;
    }

    static boolean isFixed(String token) {
        return token.charAt(0) == '0' || token.charAt(0) == '1';
    }

    /** An instruction of a form with its fields in their order. */
    static int word(String form, long... fields) {
        long word = 0;
        int used = 0;
        int bits = 0;
        for (String token : form.split(" ")) {
            int width = isFixed(token) ? token.length() : width(token);
            long value = isFixed(token) ? Long.parseLong(token, 2) : fields[used++] & (1L << width) - 1;
            word = word << width | value;
            bits += width;
        }
        if (bits != 32 || used != fields.length) {
            throw new IllegalArgumentException(form + ": " + bits + " bits, " + used + " fields");
        }
        return (int) word;
    }

    static long part(GuardCore core, int part) {
        return (long) core.high(part) << 32 | core.low(part) & 0xFFFFFFFFL;
    }

    static long[] parts(GuardCore core) {
        long[] parts = new long[46];
        for (int part = 0; part < parts.length; part++) {
            parts[part] = part(core, part);
        }
        return parts;
    }

    static void put(GuardCore core, int part, long value) {
        core.set(part, (int) (value >>> 32), (int) value);
    }

    static void pokeLong(GuardCore core, int address, long value) {
        core.poke(address, (int) value);
        core.poke(address + 4, (int) (value >>> 32));
    }

    static long peekLong(GuardCore core, int address) {
        return (long) core.peek(address + 4) << 32 | core.peek(address) & 0xFFFFFFFFL;
    }

    /** A new object with one instruction at 4096, PC there and VBAR at 32768. */
    static GuardCore with(int word) {
        GuardCore core = new GuardCore();
        core.poke(4096, word);
        put(core, PC, 4096);
        put(core, VBAR, 32768);
        return core;
    }

    /** One step of another instruction on an object that has run already. */
    static int run(GuardCore core, int word) {
        core.poke(4096, word);
        put(core, PC, 4096);
        return core.step(1);
    }

    static long esr(int kind, int what) {
        return ((long) kind << 26) + (1L << 25) + what;
    }
}
