import java.util.Random;

/** Promise 8: which words are instructions and which are none, against the document's own forms. */
public final class DecodeTest {
    private static final int ROUNDS = 3000;

    public static void main(String[] args) {
        Check check = new Check();
        Random random = new Random(7);
        for (int round = 0; round < ROUNDS; round++) {
            GuardCore core = new GuardCore();
            for (String form : Check.FORMS) {
                tell(check, core, anyOf(form, random), round & 1);
            }
            core = new GuardCore();
            for (String form : Check.FORMS) {
                tell(check, core, anyOf(form, random) ^ 1 << random.nextInt(32), round & 1);
            }
            core = new GuardCore();
            for (int i = 0; i < 10; i++) {
                tell(check, core, random.nextInt(), round & 1);
            }
        }
        check.sentence("Bits that are written as 0 or 1 must be so.");
        for (String form : Check.FORMS) {
            for (int round = 0; round < 20; round++) {
                GuardCore core = new GuardCore();
                int word = anyOf(form, random);
                for (int bit = 0; bit < 32; bit++) {
                    tell(check, core, word ^ 1 << bit, round & 1);
                }
            }
        }
        check.end();
    }

    private static int anyOf(String form, Random random) {
        int word = 0;
        for (String token : form.split(" ")) {
            boolean fixed = Check.isFixed(token);
            int width = fixed ? token.length() : Check.width(token);
            word = word << width | (fixed ? Integer.parseUnsignedInt(token, 2) & ones(width) : random.nextInt() & ones(width));
            if (width == 32) {
                word = Integer.parseUnsignedInt(token, 2);
            }
        }
        return word;
    }

    private static int ones(int width) {
        return width == 32 ? -1 : (1 << width) - 1;
    }

    private static void tell(Check check, GuardCore core, int word, int level) {
        core.set(Check.LEVEL, 0, level);
        core.set(Check.SCTLR, 0, 0);
        Check.put(core, Check.ESR, -1);
        core.poke(4096, word);
        Check.put(core, Check.PC, 4096);
        int taken = core.step(1);
        boolean none = taken == 1 && Check.part(core, Check.ESR) == Check.esr(0, 0);
        check.same("is none " + Integer.toHexString(word) + " at level " + level, none ? 1 : 0, isKnown(word, level) ? 0 : 1);
    }

    private static boolean isKnown(int word, int level) {
        for (String form : Check.FORMS) {
            long[] fields = fields(form, word);
            if (fields != null && allows(form, fields, level)) {
                return true;
            }
        }
        return false;
    }

    /** The fields of a word in a form; null when its fixed bits are others. */
    private static long[] fields(String form, int word) {
        String[] tokens = form.split(" ");
        long[] fields = new long[tokens.length];
        int used = 0;
        int place = 32;
        for (String token : tokens) {
            boolean fixed = Check.isFixed(token);
            int width = fixed ? token.length() : Check.width(token);
            place -= width;
            long value = (word & 0xFFFFFFFFL) >>> place & (1L << width) - 1;
            if (!fixed) {
                fields[used++] = value;
            } else if (value != Long.parseLong(token, 2)) {
                return null;
            }
        }
        return fields;
    }

    private static boolean allows(String form, long[] f, int level) {
        long width = f[0] == 1 ? 64 : 32;
        switch (form) {
            case Check.SUM:
                return f[3] != 3 && f[5] < width;
            case Check.LOGIC:
                return f[5] < width;
            case Check.MASKS:
                return hasMask(f[0], f[2], f[4]);
            case Check.MOVE:
                return f[1] != 1 && (f[0] == 1 || f[2] < 2);
            case Check.BITS:
                return f[1] != 3 && f[2] == f[0] && f[3] < width && f[4] < width;
            case Check.TWICE:
                return f[1] == f[0] && f[3] < width;
            case Check.TWO:
                return f[2] == 2 || f[2] == 3 || f[2] >= 8 && f[2] <= 11;
            case Check.ONE:
                return f[1] < 6 && (f[1] != 3 || f[0] == 1);
            case Check.TO:
                return f[0] != 3;
            case Check.SCALED:
                return isSize(f[0], f[1]);
            case Check.SIGNED:
                return isSize(f[0], f[1]) && f[3] != 2;
            case Check.INDEXED:
                return isSize(f[0], f[1]) && (f[3] == 2 || f[3] == 3 || f[3] == 6 || f[3] == 7);
            case Check.PAIR:
                return f[0] != 3 && f[1] != 0 && (f[0] != 1 || f[2] == 1);
            case Check.BACK:
                return level == 1;
            case Check.SYSTEM:
                return isKey((int) f[1]) && (f[1] != 530 || f[0] == 1);
            case Check.SET:
                return level == 1 && (f[0] == 3 && f[2] >= 6 || f[0] == 0 && f[2] == 5);
            default:
                return true;
        }
    }

    private static boolean isSize(long z, long o) {
        return !(z == 3 && o >= 2) && !(z == 2 && o == 3);
    }

    private static boolean hasMask(long s, long w, long l) {
        if (w == 1) {
            return s == 1 && l != 63;
        }
        for (int e = 5; e >= 1; e--) {
            if ((l >>> e & 1) == 0) {
                return (l & (1 << e) - 1) != (1 << e) - 1;
            }
        }
        return false;
    }

    private static boolean isKey(int key) {
        switch (key) {
            case 128: case 256: case 520: case 528: case 530: case 512: case 513: case 656: case 768: case 1536:
            case 6672: case 6673: case 7810:
                return true;
            default:
                return false;
        }
    }
}
