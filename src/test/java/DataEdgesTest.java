/** The edges of the instructions on numbers and registers: a test for each sentence about them. */
public final class DataEdgesTest {
    private static final long LOW = 0xFFFFFFFFL;
    private static final long LEAST = Long.MIN_VALUE;
    private static final long MOST = Long.MAX_VALUE;
    private static final long JUNK = 0xABCDEF0100000000L;

    private final Check check = new Check();

    public static void main(String[] args) {
        DataEdgesTest test = new DataEdgesTest();
        test.zeroReads();
        test.zeroIsLost();
        test.fiveBits();
        test.whereStackIsSaid();
        test.widths();
        test.signAndZero();
        test.carryAndOverflow();
        test.flagsOfOthers();
        test.flagsStay();
        test.minus();
        test.writtenBits();
        test.numbers();
        test.numberToStack();
        test.sums();
        test.sumsThatAreNone();
        test.logic();
        test.turned();
        test.masksToStack();
        test.masksWithoutLength();
        test.masksOfOnes();
        test.everyMask();
        test.moves();
        test.movesThatAreNone();
        test.places();
        test.bitsThatAreNone();
        test.everyRunOfBits();
        test.twiceThatIsNone();
        test.twice();
        test.choose();
        test.compare();
        test.times();
        test.upperTimes();
        test.quotients();
        test.shiftsByRegisters();
        test.twoThatAreNone();
        test.turnedRound();
        test.counts();
        test.onesThatAreNone();
        test.check.end();
    }

    private static int bit(long value, int place) {
        return (int) (value >>> place & 1);
    }

    // ---- what holds for all

    private void zeroReads() {
        check.sentence("number 31 is ZERO: it reads 0");
        check.one(Check.SUM, 1, 0, 0, 0, 2, 0, 31, 0).with(2, 9).leaves(0, 9);
        check.one(Check.SUM, 1, 1, 0, 0, 31, 0, 1, 0).with(1, 9).leaves(0, 9);
        check.one(Check.LOGIC, 1, 1, 0, 0, 2, 0, 31, 0).with(2, 9).leaves(0, 9);
        check.one(Check.LOGIC, 1, 0, 0, 1, 31, 0, 1, 0).with(1, 9).leaves(0, 9);
        check.one(Check.MASKS, 1, 1, 1, 0, 3, 31, 0).leaves(0, 15);
        check.one(Check.MOVE, 1, 3, 1, 5, 31).leaves();
        check.one(Check.BITS, 1, 2, 1, 0, 63, 31, 0).leaves(0, 0);
        check.one(Check.TWICE, 1, 1, 31, 4, 1, 0).with(1, 3).leaves(0, 3L << 60);
        check.one(Check.TWICE, 1, 1, 2, 4, 31, 0).with(2, 0x30).leaves(0, 3);
        check.one(Check.CHOOSE, 1, 0, 2, 14, 0, 31, 0).leaves(0, 0);
        check.one(Check.CHOOSE, 1, 1, 31, 0, 0, 1, 0).leaves(0, -1);
        check.one(Check.COMPARE, 1, 1, 31, 14, 0, 31, 9).leaves(Check.FLAGS, 6);
        check.one(Check.TIMES, 1, 2, 0, 31, 1, 0).with(1, 3).with(2, 4).leaves(0, 12);
        check.one(Check.TIMES, 1, 31, 1, 3, 1, 0).with(3, 7).leaves(0, 7);
        check.one(Check.HIGH, 1, 31, 1, 0).leaves(0, 0);
        check.one(Check.TWO, 1, 31, 8, 1, 0).with(1, 9).leaves(0, 9);
        check.one(Check.TWO, 1, 2, 2, 31, 0).leaves(0, 0);
        check.one(Check.ONE, 1, 4, 31, 0).leaves(0, 64);
        check.one(Check.ZERO, 1, 0, 5, 31).goes(4116);
        check.one(Check.BIT, 1, 1, 31, 5, 31).leaves();
        check.one(Check.TO, 0, 31).goes(0);
        check.one(Check.SYSTEM, 0, 7810, 31).with(Check.TPIDR, 5).leaves(Check.TPIDR, 0);
        check.one(Check.SCALED, 3, 0, 0, 1, 31).with(1, 8192).holding(8192, -1).leaves().holds(8192, 0);
        check.one(Check.PAIR, 2, 2, 0, 0, 31, 1, 31).with(1, 8192).holding(8192, -1).holding(8200, -1)
                .leaves().holds(8192, 0).holds(8200, 0);
        check.one(Check.INDEXED, 3, 1, 31, 3, 1, 1, 2).with(1, 8192).holding(8192, 7).leaves(2, 7);
    }

    private void zeroIsLost() {
        check.sentence("what is written is lost");
        check.one(Check.NUMBER, 1, 0, 1, 0, 1, 1, 31).with(1, 9).leaves(Check.FLAGS, 0);
        check.one(Check.SUM, 1, 0, 0, 0, 2, 0, 1, 31).leaves();
        check.one(Check.LOGIC, 1, 1, 0, 0, 2, 0, 1, 31).leaves();
        check.one(Check.MASKS, 1, 3, 1, 0, 3, 1, 31).with(1, 1).leaves(Check.FLAGS, 0);
        check.one(Check.MOVE, 1, 2, 0, 5, 31).leaves();
        check.one(Check.PLACE, 0, 1, 1, 31).leaves();
        check.one(Check.BITS, 1, 2, 1, 0, 63, 1, 31).leaves();
        check.one(Check.TWICE, 1, 1, 2, 4, 1, 31).leaves();
        check.one(Check.CHOOSE, 1, 0, 2, 14, 0, 1, 31).leaves();
        check.one(Check.TIMES, 1, 2, 0, 3, 1, 31).leaves();
        check.one(Check.HIGH, 1, 2, 1, 31).leaves();
        check.one(Check.TWO, 1, 2, 8, 1, 31).leaves();
        check.one(Check.ONE, 1, 0, 1, 31).leaves();
        check.one(Check.SYSTEM, 1, 7810, 31).with(Check.TPIDR, 5).leaves();
        check.one(Check.SCALED, 3, 1, 0, 1, 31).with(1, 8192).holding(8192, 7).leaves();
        check.one(Check.PAIR, 2, 2, 1, 0, 31, 1, 31).with(1, 8192).holding(8192, 7).leaves();
        check.one(Check.NEAR, 1, 2, 31).leaves();
    }

    private void fiveBits() {
        check.sentence("d n m a t: registers, five bits each.");
        for (int r = 0; r < 31; r++) {
            int other = (r + 16) % 31;
            check.one(Check.NUMBER, 1, 0, 0, 0, 1, r, other).with(r, 8).leaves(other, 9);
            check.one(Check.SUM, 1, 0, 0, 0, r, 0, 31, other).with(r, 8).leaves(other, 8);
            check.one(Check.LOGIC, 1, 1, 0, 0, 31, 0, r, other).with(r, 8).leaves(other, 8);
            check.one(Check.MASKS, 1, 1, 1, 0, 0, r, other).with(r, 8).leaves(other, 9);
            check.one(Check.MOVE, 1, 2, 0, 8, r).leaves(r, 8);
            check.one(Check.PLACE, 0, 0, 0, r).leaves(r, 4096);
            check.one(Check.BITS, 1, 2, 1, 0, 63, r, other).with(r, 8).leaves(other, 8);
            check.one(Check.TWICE, 1, 1, 31, 32, r, other).with(r, 8).leaves(other, 8L << 32);
            check.one(Check.TWICE, 1, 1, r, 1, 31, other).with(r, 8).leaves(other, 4);
            check.one(Check.CHOOSE, 1, 0, 31, 14, 0, r, other).with(r, 8).leaves(other, 8);
            check.one(Check.COMPARE, 1, 1, r, 14, 0, other, 0).with(r, 8).with(other, 8).leaves(Check.FLAGS, 6);
            check.one(Check.TIMES, 1, r, 0, 31, r, other).with(r, 8).leaves(other, 64);
            check.one(Check.TIMES, 1, 31, 0, r, 31, other).with(r, 8).leaves(other, 8);
            check.one(Check.HIGH, 1, r, r, other).with(r, 1L << 32).leaves(other, 1);
            check.one(Check.TWO, 1, r, 2, r, other).with(r, 8).leaves(other, 1);
            check.one(Check.ONE, 1, 4, r, other).with(r, 8).leaves(other, 60);
            check.one(Check.ZERO, 1, 0, 5, r).with(r, 0).goes(4116);
            check.one(Check.BIT, 0, 1, 3, 5, r).with(r, 8).goes(4116);
            check.one(Check.TO, 0, r).with(r, 8).goes(8);
            check.one(Check.SCALED, 3, 1, 0, r, other).with(r, 8192).holding(8192, 8).leaves(other, 8);
            check.one(Check.SIGNED, 3, 0, 8, 1, r, other).with(r, 8192).with(other, 8).leaves(r, 8200).holds(8192, 8);
            check.one(Check.INDEXED, 3, 1, r, 3, 0, other, r).with(r, 8).with(other, 8192).holding(8200, 9).leaves(r, 9);
            check.one(Check.PAIR, 2, 2, 1, 0, other, r, r).with(r, 8192).holding(8192, 8).holding(8200, 9).leaves(r, 8, other, 9);
            check.one(Check.NEAR, 1, 2, r).holding(4104, 8).leaves(r, 8);
            check.one(Check.SYSTEM, 1, 7810, r).with(Check.TPIDR, 8).leaves(r, 8);
        }
    }

    private void whereStackIsSaid() {
        check.sentence("or, where SP is said, the STACK POINTER");
        check.one(Check.NUMBER, 1, 0, 0, 0, 1, 31, 0).with(Check.SP1, 64).leaves(0, 65);
        check.one(Check.NUMBER, 1, 1, 1, 0, 64, 31, 0).with(Check.SP1, 64).leaves(0, 0, Check.FLAGS, 6);
        check.one(Check.NUMBER, 1, 0, 0, 0, 1, 1, 31).with(1, 64).leaves(Check.SP1, 65);
        check.one(Check.NUMBER, 0, 0, 0, 0, 1, 31, 31).with(Check.SP1, -1).leaves(Check.SP1, 0);
        check.one(Check.MASKS, 1, 0, 1, 0, 3, 1, 31).with(1, 0xFF).leaves(Check.SP1, 15);
        check.one(Check.SCALED, 3, 1, 1, 31, 0).with(Check.SP1, 8192).holding(8200, 7).leaves(0, 7);
        check.one(Check.SIGNED, 3, 1, 16, 1, 31, 0).with(Check.SP1, 8192).holding(8192, 7).leaves(0, 7, Check.SP1, 8208);
        check.one(Check.INDEXED, 3, 1, 1, 3, 0, 31, 0).with(Check.SP1, 8192).with(1, 8).holding(8200, 7).leaves(0, 7);
        check.one(Check.PAIR, 2, 3, 1, -2, 1, 31, 0).with(Check.SP1, 8208).holding(8192, 7).holding(8200, 8)
                .leaves(0, 7, 1, 8, Check.SP1, 8192);
    }

    private void widths() {
        check.sentence("W is 64 (1) or 32 (0: values are the lowest 32 bits, results have 0s above)");
        long left = JUNK | 0xFFFFFFF0L, right = JUNK | 0x20;
        check.one(Check.NUMBER, 0, 0, 0, 0, 0x20, 1, 0).with(1, left).leaves(0, 0x10);
        check.one(Check.NUMBER, 1, 0, 0, 0, 0x20, 1, 0).with(1, left).leaves(0, left + 0x20);
        check.one(Check.SUM, 0, 0, 0, 0, 2, 0, 1, 0).with(1, left).with(2, right).leaves(0, 0x10);
        check.one(Check.SUM, 0, 0, 0, 1, 2, 4, 31, 0).with(2, right).leaves(0, 2);
        check.one(Check.SUM, 0, 0, 0, 2, 2, 4, 31, 0).with(2, left).leaves(0, LOW);
        check.one(Check.LOGIC, 0, 1, 0, 0, 2, 0, 1, 0).with(1, JUNK | 1).with(2, right).leaves(0, 0x21);
        check.one(Check.LOGIC, 0, 0, 0, 1, 31, 0, 1, 0).with(1, left).leaves(0, 0xFFFFFFF0L);
        check.one(Check.MASKS, 0, 2, 0, 0, 3, 1, 0).with(1, left).leaves(0, LOW);
        check.one(Check.MOVE, 0, 0, 0, 0, 0).leaves(0, LOW);
        check.one(Check.MOVE, 0, 3, 1, 5, 0).with(0, left).leaves(0, 0x5FFF0L);
        check.one(Check.BITS, 0, 0, 0, 4, 31, 1, 0).with(1, left).leaves(0, LOW);
        check.one(Check.BITS, 0, 1, 0, 0, 3, 1, 0).with(1, 5).with(0, left).leaves(0, 0xFFFFFFF5L);
        check.one(Check.TWICE, 0, 0, 2, 4, 1, 0).with(1, JUNK | 3).with(2, right).leaves(0, 0x30000002L);
        check.one(Check.CHOOSE, 0, 0, 2, 14, 0, 1, 0).with(1, left).leaves(0, 0xFFFFFFF0L);
        check.one(Check.CHOOSE, 0, 1, 31, 0, 0, 1, 0).leaves(0, LOW);
        check.one(Check.TIMES, 0, 2, 0, 3, 1, 0).with(1, JUNK | 3).with(2, JUNK | 5).with(3, JUNK | 7).leaves(0, 22);
        check.one(Check.TWO, 0, 2, 2, 1, 0).with(1, left).with(2, right).leaves(0, 0x7FFFFFFL);
        check.one(Check.TWO, 0, 2, 3, 1, 0).with(1, left).with(2, JUNK | 4).leaves(0, 0xFFFFFFFCL);
        check.one(Check.TWO, 0, 2, 8, 1, 0).with(1, left).with(2, JUNK | 36).leaves(0, 0xFFFFFF00L);
        check.one(Check.ONE, 0, 0, 1, 0).with(1, JUNK | 1).leaves(0, 0x80000000L);
        check.one(Check.ZERO, 0, 0, 2, 1).with(1, JUNK).goes(4104);
        check.one(Check.ZERO, 1, 0, 2, 1).with(1, JUNK).goes(4100);
    }

    private void signAndZero() {
        check.sentence("N the highest bit of W, Z if it is 0");
        long[] values = {0, 1, -1, LEAST, MOST, 0x80000000L, 0x7FFFFFFFL, 0x100000000L, 0xFFFFFFFF00000000L};
        int[] wide = {4, 0, 8, 8, 0, 0, 0, 0, 8};
        int[] narrow = {4, 0, 8, 4, 8, 8, 0, 4, 4};
        for (int i = 0; i < values.length; i++) {
            check.one(Check.SUM, 1, 0, 1, 0, 31, 0, 1, 31).with(1, values[i]).with(Check.FLAGS, 15).leaves(Check.FLAGS, wide[i]);
            check.one(Check.SUM, 0, 0, 1, 0, 31, 0, 1, 31).with(1, values[i]).with(Check.FLAGS, 15).leaves(Check.FLAGS, narrow[i]);
            check.one(Check.LOGIC, 1, 3, 0, 0, 1, 0, 1, 31).with(1, values[i]).with(Check.FLAGS, 15).leaves(Check.FLAGS, wide[i]);
            check.one(Check.LOGIC, 0, 3, 0, 0, 1, 0, 1, 31).with(1, values[i]).with(Check.FLAGS, 15).leaves(Check.FLAGS, narrow[i]);
        }
    }

    private void carryAndOverflow() {
        check.sentence("of sums C the carry out of W, V if it is wrong with signs");
        // left, right, flags of the sum, flags of the difference
        long[][] wide = {
            {0, 0, 4, 6}, {-1, 1, 6, 10}, {1, -1, 6, 0}, {MOST, 1, 9, 2}, {LEAST, LEAST, 7, 6}, {LEAST, -1, 3, 8},
            {LEAST, 1, 8, 3}, {0, LEAST, 8, 9}, {MOST, MOST, 9, 6}, {-1, -1, 10, 6}, {MOST, -1, 2, 9}, {0, 1, 0, 8},
            {1, 0, 0, 2}, {5, 7, 0, 8}, {7, 5, 0, 2}, {LOW, 1, 0, 2}, {-1, LEAST, 3, 2},
        };
        for (long[] row : wide) {
            check.one(Check.SUM, 1, 0, 1, 0, 2, 0, 1, 31).with(1, row[0]).with(2, row[1]).leaves(Check.FLAGS, row[2]);
            check.one(Check.SUM, 1, 1, 1, 0, 2, 0, 1, 31).with(1, row[0]).with(2, row[1]).leaves(Check.FLAGS, row[3]);
            check.one(Check.COMPARE, 1, 0, 2, 14, 0, 1, 0).with(1, row[0]).with(2, row[1]).leaves(Check.FLAGS, row[2]);
        }
        long least = 0x80000000L, most = 0x7FFFFFFFL;
        long[][] narrow = {
            {0, 0, 4, 6}, {LOW, 1, 6, 10}, {1, LOW, 6, 0}, {most, 1, 9, 2}, {least, least, 7, 6}, {least, LOW, 3, 8},
            {least, 1, 8, 3}, {0, least, 8, 9}, {most, most, 9, 6}, {LOW, LOW, 10, 6}, {most, LOW, 2, 9}, {0, 1, 0, 8},
        };
        for (long[] row : narrow) {
            check.one(Check.SUM, 0, 0, 1, 0, 2, 0, 1, 31).with(1, JUNK | row[0]).with(2, ~JUNK & ~LOW | row[1])
                    .leaves(Check.FLAGS, row[2]);
            check.one(Check.SUM, 0, 1, 1, 0, 2, 0, 1, 31).with(1, JUNK | row[0]).with(2, ~JUNK & ~LOW | row[1])
                    .leaves(Check.FLAGS, row[3]);
        }
        check.one(Check.NUMBER, 1, 0, 1, 1, 4095, 1, 31).with(1, -0xFFF000L).leaves(Check.FLAGS, 6);
        check.one(Check.NUMBER, 0, 1, 1, 0, 1, 1, 31).with(1, least).leaves(Check.FLAGS, 3);
    }

    private void flagsOfOthers() {
        check.sentence("of others C V 0");
        for (int flags = 0; flags < 16; flags++) {
            check.one(Check.LOGIC, 1, 3, 0, 0, 2, 0, 1, 0).with(1, 3).with(2, 6).with(Check.FLAGS, flags).leaves(0, 2, Check.FLAGS, 0);
            check.one(Check.MASKS, 1, 3, 1, 0, 3, 1, 0).with(1, 16).with(Check.FLAGS, flags).leaves(0, 0, Check.FLAGS, 4);
        }
    }

    private void flagsStay() {
        check.sentence("f 1: flags are set");
        for (int flags = 0; flags < 16; flags += 5) {
            check.one(Check.NUMBER, 1, 1, 0, 0, 1, 1, 0).with(1, 0).with(Check.FLAGS, flags).leaves(0, -1);
            check.one(Check.NUMBER, 1, 1, 1, 0, 1, 1, 0).with(1, 0).with(Check.FLAGS, flags).leaves(0, -1, Check.FLAGS, 8);
            check.one(Check.SUM, 1, 1, 0, 0, 2, 0, 1, 0).with(1, 0).with(2, 1).with(Check.FLAGS, flags).leaves(0, -1);
            check.one(Check.SUM, 1, 1, 1, 0, 2, 0, 1, 0).with(1, 0).with(2, 1).with(Check.FLAGS, flags).leaves(0, -1, Check.FLAGS, 8);
            for (int o = 0; o < 3; o++) {
                check.one(Check.LOGIC, 1, o, 0, 0, 1, 0, 1, 0).with(1, 0).with(Check.FLAGS, flags).leaves(0, 0);
            }
        }
    }

    private void minus() {
        check.sentence("- is + the other's bits inverted + 1, carry too.");
        check.one(Check.NUMBER, 1, 1, 1, 0, 0, 1, 0).with(1, 0).leaves(0, 0, Check.FLAGS, 6);
        check.one(Check.NUMBER, 0, 1, 1, 0, 0, 1, 0).with(1, JUNK).leaves(0, 0, Check.FLAGS, 6);
        check.one(Check.NUMBER, 1, 1, 1, 0, 1, 1, 0).with(1, 1).leaves(0, 0, Check.FLAGS, 6);
        check.one(Check.NUMBER, 1, 1, 1, 0, 2, 1, 0).with(1, 1).leaves(0, -1, Check.FLAGS, 8);
        check.one(Check.SUM, 1, 1, 1, 0, 2, 0, 31, 0).with(2, LEAST).leaves(0, LEAST, Check.FLAGS, 9);
        check.one(Check.SUM, 0, 1, 1, 0, 2, 0, 31, 0).with(2, 0x80000000L).leaves(0, 0x80000000L, Check.FLAGS, 9);
        check.one(Check.SUM, 1, 1, 1, 0, 2, 0, 1, 0).with(1, -1).with(2, -1).leaves(0, 0, Check.FLAGS, 6);
        check.one(Check.SUM, 1, 1, 0, 0, 2, 0, 1, 0).with(1, 0).with(2, -1).leaves(0, 1);
    }

    private void writtenBits() {
        check.sentence("Bits that are written as 0 or 1 must be so.");
        int[] words = {
            Check.word(Check.NUMBER, 1, 0, 0, 0, 1, 1, 0) ^ 1 << 23, Check.word(Check.SUM, 1, 0, 0, 0, 2, 0, 1, 0) ^ 1 << 21,
            Check.word(Check.TWICE, 1, 1, 2, 4, 1, 0) ^ 1 << 21, Check.word(Check.TWICE, 1, 1, 2, 4, 1, 0) ^ 1 << 29,
            Check.word(Check.TWICE, 1, 1, 2, 4, 1, 0) ^ 1 << 30, Check.word(Check.CHOOSE, 1, 0, 2, 14, 0, 1, 0) ^ 1 << 11,
            Check.word(Check.CHOOSE, 1, 0, 2, 14, 0, 1, 0) ^ 1 << 29, Check.word(Check.COMPARE, 1, 0, 2, 14, 0, 1, 0) ^ 1 << 4,
            Check.word(Check.COMPARE, 1, 0, 2, 14, 0, 1, 0) ^ 1 << 10, Check.word(Check.COMPARE, 1, 0, 2, 14, 0, 1, 0) ^ 1 << 29,
            Check.word(Check.TIMES, 1, 2, 0, 3, 1, 0) ^ 1 << 21, Check.word(Check.TIMES, 1, 2, 0, 3, 1, 0) ^ 1 << 29,
            Check.word(Check.TIMES, 1, 2, 0, 3, 1, 0) ^ 1 << 30, Check.word(Check.HIGH, 1, 2, 1, 0) ^ 1 << 31,
            Check.word(Check.HIGH, 1, 2, 1, 0) ^ 1 << 15, Check.word(Check.HIGH, 1, 2, 1, 0) ^ 1 << 10,
            Check.word(Check.HIGH, 0, 2, 1, 0) ^ 1 << 14, Check.word(Check.HIGH, 0, 2, 1, 0) ^ 1 << 21,
            Check.word(Check.TWO, 1, 2, 2, 1, 0) ^ 1 << 29, Check.word(Check.ONE, 1, 0, 1, 0) ^ 1 << 29,
            Check.word(Check.CHOOSE, 1, 0, 2, 14, 0, 1, 0) ^ 1 << 21, Check.word(Check.CHOOSE, 1, 0, 2, 14, 0, 1, 0) ^ 1 << 23,
            Check.word(Check.COMPARE, 1, 0, 2, 14, 0, 1, 0) ^ 1 << 21, Check.word(Check.COMPARE, 1, 0, 2, 14, 0, 1, 0) ^ 1 << 22,
            Check.word(Check.TWO, 1, 2, 2, 1, 0) ^ 1 << 21, Check.word(Check.TWO, 1, 2, 2, 1, 0) ^ 1 << 24,
            Check.word(Check.ONE, 1, 0, 1, 0) ^ 1 << 21, Check.word(Check.ONE, 1, 0, 1, 0) ^ 1 << 23,
            Check.word(Check.TO, 0, 1) ^ 1 << 4, Check.word(Check.SVC, 1) ^ 16, Check.word(Check.BRK, 1) ^ 16,
            Check.word(Check.SET, 3, 2, 6) ^ 1 << 15, Check.word(Check.SET, 3, 2, 6) ^ 1 << 4,
            Check.word(Check.ONE, 1, 0, 1, 0) ^ 1 << 16, Check.word(Check.ONE, 1, 0, 1, 0) ^ 1 << 20,
            Check.word(Check.IF, 2, 14) ^ 1 << 4, Check.word(Check.IF, 2, 14) ^ 1 << 24, Check.word(Check.IF, 2, 14) ^ 1 << 31,
            Check.word(Check.TO, 0, 1) ^ 1, Check.word(Check.TO, 0, 1) ^ 1 << 10, Check.word(Check.TO, 0, 1) ^ 1 << 16,
            Check.word(Check.TO, 0, 1) ^ 1 << 24, Check.word(Check.SVC, 1) ^ 1, Check.word(Check.SVC, 1) ^ 2,
            Check.word(Check.BRK, 1) ^ 1, Check.word(Check.BRK, 1) ^ 1 << 22, Check.word(Check.HINT, 0) ^ 1,
            Check.word(Check.HINT, 0) ^ 1 << 18, Check.word(Check.BARRIER, 0) ^ 1 << 4, Check.word(Check.SYSTEM, 1, 7810, 1) ^ 1 << 19,
            Check.word(Check.SYSTEM, 1, 7810, 1) ^ 1 << 20, Check.word(Check.SYSTEM, 1, 7810, 1) ^ 1 << 22,
            Check.word(Check.SET, 3, 2, 6) ^ 1, Check.word(Check.SET, 3, 2, 6) ^ 1 << 12, Check.word(Check.SET, 3, 2, 6) ^ 1 << 19,
            Check.word(Check.SCALED, 3, 1, 0, 1, 0) ^ 1 << 26, Check.word(Check.SIGNED, 3, 1, 0, 0, 1, 0) ^ 1 << 26,
            Check.word(Check.INDEXED, 3, 1, 2, 3, 0, 1, 0) ^ 1 << 10, Check.word(Check.INDEXED, 3, 1, 2, 3, 0, 1, 0) ^ 1 << 11,
            Check.word(Check.PAIR, 2, 2, 1, 0, 2, 1, 0) ^ 1 << 26, Check.word(Check.PAIR, 2, 2, 1, 0, 2, 1, 0) ^ 1 << 29,
            Check.word(Check.NEAR, 1, 2, 0) ^ 1 << 31, Check.word(Check.NEAR, 1, 2, 0) ^ 1 << 26,
            Check.word(Check.NEAR, 1, 2, 0) ^ 1 << 24,
        };
        for (int word : words) {
            new One(check, word).with(1, 8192).with(2, 0).none();
        }
        for (int bit = 0; bit < 32; bit++) {
            // with one of these turned BACK is TO, MOVE or BRANCH
            if (bit != 23 && bit != 26 && bit != 30) {
                new One(check, Check.word(Check.BACK) ^ 1 << bit).none();
            }
        }
    }

    // ---- numbers

    private void numbers() {
        check.sentence("n (SP) + i, o 1: - i; h 1: i * 4096");
        long[][] rows = {
            {0, 0, 0, 0, 0}, {0, 0, 4095, 0, 4095}, {0, 1, 4095, 0, 0xFFF000}, {0, 1, 1, 0, 4096}, {0, 0, 1, -1, 0},
            {1, 0, 1, 0, -1}, {1, 1, 4095, 0, -0xFFF000L}, {1, 0, 4095, 4095, 0}, {0, 0, 1, MOST, LEAST}, {1, 0, 1, LEAST, MOST},
            {0, 0, 2048, 0, 2048}, {0, 1, 2048, 0, 0x800000}, {1, 0, 0, 5, 5},
        };
        for (long[] row : rows) {
            check.one(Check.NUMBER, 1, row[0], 0, row[1], row[2], 1, 0).with(1, row[3]).leaves(0, row[4]);
            check.one(Check.NUMBER, 0, row[0], 0, row[1], row[2], 1, 0).with(1, row[3]).leaves(0, row[4] & LOW);
        }
    }

    private void numberToStack() {
        check.sentence("d is SP if f is 0.");
        for (int o = 0; o < 2; o++) {
            check.one(Check.NUMBER, 1, o, 0, 0, 0, 1, 31).with(1, 77).leaves(Check.SP1, 77);
            check.one(Check.NUMBER, 0, o, 0, 0, 0, 1, 31).with(1, JUNK | 77).leaves(Check.SP1, 77);
            check.one(Check.NUMBER, 1, o, 1, 0, 0, 1, 31).with(1, 77).leaves(Check.FLAGS, o == 1 ? 2 : 0);
        }
    }

    private void sums() {
        check.sentence("m moved by c: k 0 left, 1 right, 2 right with its sign");
        long value = 0x8000000080000001L;
        long[][] rows = {
            {1, 0, 0, value}, {1, 0, 1, 0x100000002L}, {1, 0, 63, LEAST}, {1, 1, 0, value}, {1, 1, 63, 1}, {1, 2, 0, value},
            {1, 2, 63, -1}, {1, 2, 31, -0xFFFFFFFFL}, {0, 0, 0, 0x80000001L}, {0, 0, 31, 0x80000000L}, {0, 1, 31, 1},
            {0, 2, 31, LOW}, {0, 2, 0, 0x80000001L}, {0, 1, 1, 0x40000000L}, {0, 0, 1, 2},
        };
        for (long[] row : rows) {
            check.one(Check.SUM, row[0], 0, 0, row[1], 2, row[2], 31, 0).with(2, value).leaves(0, row[3]);
        }
    }

    private void sumsThatAreNone() {
        check.sentence("k 3, or c not below W: none.");
        for (int of = 0; of < 4; of++) {
            for (int c = 0; c < 64; c += 7) {
                check.one(Check.SUM, 1, of >> 1, of & 1, 3, 2, c, 1, 0).none();
                check.one(Check.SUM, 0, of >> 1, of & 1, 3, 2, c, 1, 0).none();
            }
            for (int k = 0; k < 3; k++) {
                for (int c : new int[] {32, 33, 48, 63}) {
                    check.one(Check.SUM, 0, of >> 1, of & 1, k, 2, c, 1, 0).none();
                }
                check.one(Check.SUM, 0, of >> 1, 0, k, 2, 31, 1, 0).with(1, 5).with(2, 0).leaves(0, 5);
                check.one(Check.SUM, 1, of >> 1, 0, k, 2, 63, 1, 0).with(1, 5).with(2, 0).leaves(0, 5);
                check.one(Check.SUM, 1, of >> 1, 0, k, 2, 32, 1, 0).with(1, 5).with(2, 0).leaves(0, 5);
            }
        }
    }

    private void logic() {
        check.sentence("v 1 inverted; o 0 and, 1 or, 2 exclusive or, 3 and with flags.");
        long[][] rows = {
            {0, 0, 0b1000}, {1, 0, 0b1110}, {2, 0, 0b0110}, {3, 0, 0b1000}, {0, 1, 0b0100}, {1, 1, -0b0011}, {2, 1, -0b0111},
            {3, 1, 0b0100},
        };
        for (long[] row : rows) {
            check.one(Check.LOGIC, 1, row[0], 0, row[1], 2, 0, 1, 0).with(1, 0b1100).with(2, 0b1010).leaves(0, row[2]);
            check.one(Check.LOGIC, 0, row[0], 0, row[1], 2, 0, 1, 0).with(1, JUNK | 0b1100).with(2, JUNK | 0b1010).leaves(0, row[2] & LOW);
        }
        check.one(Check.LOGIC, 1, 3, 0, 1, 31, 0, 1, 0).with(1, -1).leaves(0, -1, Check.FLAGS, 8);
        check.one(Check.LOGIC, 0, 3, 0, 1, 31, 0, 1, 0).with(1, -1).leaves(0, LOW, Check.FLAGS, 8);
        check.one(Check.LOGIC, 1, 3, 0, 0, 2, 0, 1, 0).with(1, 1).with(2, 2).leaves(0, 0, Check.FLAGS, 4);
        // the bits that come in are 0 ahead of the inverting
        check.one(Check.LOGIC, 1, 1, 0, 1, 2, 60, 31, 0).with(2, -1).leaves(0, 0x0FFFFFFFFFFFFFFFL);
    }

    private void turned() {
        check.sentence("k 3 turned right (c not below W: none)");
        long value = 0x8000000000000001L;
        check.one(Check.LOGIC, 1, 1, 3, 0, 2, 0, 31, 0).with(2, value).leaves(0, value);
        check.one(Check.LOGIC, 1, 1, 3, 0, 2, 1, 31, 0).with(2, value).leaves(0, 0xC000000000000000L);
        check.one(Check.LOGIC, 1, 1, 3, 0, 2, 63, 31, 0).with(2, value).leaves(0, 3);
        check.one(Check.LOGIC, 1, 1, 3, 0, 2, 32, 31, 0).with(2, value).leaves(0, 0x180000000L);
        check.one(Check.LOGIC, 0, 1, 3, 0, 2, 0, 31, 0).with(2, JUNK | 0x80000001L).leaves(0, 0x80000001L);
        check.one(Check.LOGIC, 0, 1, 3, 0, 2, 1, 31, 0).with(2, JUNK | 0x80000001L).leaves(0, 0xC0000000L);
        check.one(Check.LOGIC, 0, 1, 3, 0, 2, 31, 31, 0).with(2, JUNK | 0x80000001L).leaves(0, 3);
        for (int k = 0; k < 4; k++) {
            for (int o = 0; o < 4; o++) {
                check.one(Check.LOGIC, 0, o, k, 0, 2, 32, 1, 0).none();
                check.one(Check.LOGIC, 0, o, k, 1, 2, 63, 1, 0).none();
                check.one(Check.LOGIC, 0, o, k, 1, 2, 47, 1, 0).none();
            }
            check.one(Check.LOGIC, 0, 1, k, 0, 2, 31, 31, 0).with(2, JUNK).leaves(0, 0);
        }
    }

    // ---- masks

    private void masksToStack() {
        check.sentence("likewise n and a mask; d is SP but for o 3.");
        long[] due = {0x0C, 0xFF0F, 0xFF03, 0x0C};
        for (int o = 0; o < 4; o++) {
            One one = check.one(Check.MASKS, 1, o, 1, 0, 3, 1, 31).with(1, 0xFF0C);
            if (o == 3) {
                one.leaves(Check.FLAGS, 0);
            } else {
                one.leaves(Check.SP1, due[o]);
            }
            One plain = check.one(Check.MASKS, 1, o, 1, 0, 3, 1, 0).with(1, 0xFF0C).with(Check.FLAGS, 15);
            if (o == 3) {
                plain.leaves(0, due[o], Check.FLAGS, 0);
            } else {
                plain.leaves(0, due[o]);
            }
            // n is ZERO, not SP
            One zero = check.one(Check.MASKS, 1, o, 1, 0, 3, 31, 0);
            if (o == 3) {
                zero.leaves(0, 0, Check.FLAGS, 4);
            } else {
                zero.leaves(0, o == 0 ? 0 : 15);
            }
        }
        check.one(Check.MASKS, 0, 3, 0, 1, 0, 1, 0).with(1, -1).leaves(0, 0x80000000L, Check.FLAGS, 8);
    }

    private void masksWithoutLength() {
        check.sentence("e 0 or none, w 1 with s 0: none.");
        for (int o = 0; o < 4; o++) {
            for (int s = 0; s < 2; s++) {
                for (int r : new int[] {0, 1, 63}) {
                    check.one(Check.MASKS, s, o, 0, r, 63, 1, 0).none();
                    check.one(Check.MASKS, s, o, 0, r, 62, 1, 0).none();
                }
            }
            for (int l : new int[] {0, 1, 31, 32, 60, 62, 63}) {
                check.one(Check.MASKS, 0, o, 1, 5, l, 1, 0).none();
            }
        }
        check.one(Check.MASKS, 1, 1, 0, 0, 60, 31, 0).leaves(0, 0x5555555555555555L);
        check.one(Check.MASKS, 0, 1, 0, 0, 60, 31, 0).leaves(0, 0x55555555L);
        check.one(Check.MASKS, 1, 1, 1, 0, 62, 31, 0).leaves(0, MOST);
    }

    private void masksOfOnes() {
        check.sentence("of l the lowest e bits must not be all 1 (none)");
        // l of every e with its lowest e bits all 1, and with one less
        int[] full = {61, 59, 55, 47, 31};
        long[] less = {0x5555555555555555L, 0x7777777777777777L, 0x7F7F7F7F7F7F7F7FL, 0x7FFF7FFF7FFF7FFFL, 0x7FFFFFFF7FFFFFFFL};
        for (int i = 0; i < full.length; i++) {
            for (int s = 0; s < 2; s++) {
                for (int o = 0; o < 4; o++) {
                    check.one(Check.MASKS, s, o, 0, 3, full[i], 1, 0).none();
                }
                check.one(Check.MASKS, s, 1, 0, 0, full[i] - 1, 31, 0).leaves(0, s == 1 ? less[i] : less[i] & LOW);
            }
        }
        check.one(Check.MASKS, 1, 1, 1, 0, 63, 1, 0).none();
        check.one(Check.MASKS, 1, 1, 1, 9, 63, 1, 0).none();
    }

    /** A mask as its words tell it, bit by bit; 0 for none. */
    private static long mask(int width, int w, int r, int l) {
        int e = -1;
        for (int place = 0; place < 7; place++) {
            if ((place == 6 ? w : 1 - bit(l, place)) == 1) {
                e = place;
            }
        }
        int size = 1 << Math.max(e, 0);
        if (e < 1 || w == 1 && width == 32 || l % size == size - 1) {
            return 0;
        }
        long mask = 0;
        for (int place = 0; place < width; place++) {
            int before = (place + r) % size;
            mask |= before <= l % size ? 1L << place : 0;
        }
        return mask;
    }

    private void everyMask() {
        check.sentence("E bits, the lowest so many + 1 of them 1, are turned right by the lowest e bits of r, and stand again and again in W.");
        check.one(Check.MASKS, 1, 1, 1, 1, 0, 31, 0).leaves(0, LEAST);
        check.one(Check.MASKS, 1, 1, 1, 63, 0, 31, 0).leaves(0, 2);
        check.one(Check.MASKS, 1, 1, 0, 1, 0, 31, 0).leaves(0, 0x8000000080000000L);
        check.one(Check.MASKS, 0, 1, 0, 33, 0, 31, 0).leaves(0, 0x80000000L);
        check.one(Check.MASKS, 1, 1, 0, 62, 48 + 1, 31, 0).leaves(0, 0x0C0C0C0C0C0C0C0CL);
        for (int all = 0; all < 1 << 14; all++) {
            int s = all >> 13, w = all >> 12 & 1, r = all >> 6 & 63, l = all & 63;
            GuardCore core = Check.with(Check.word(Check.MASKS, s, 1, w, r, l, 31, 0));
            long due = mask(s == 1 ? 64 : 32, w, r, l);
            String call = "mask " + s + " " + w + " " + r + " " + l;
            check.same(call, core.step(1), due == 0 ? 1 : 0);
            check.same(call, Check.part(core, 0), due);
        }
    }

    // ---- moves and places

    private void moves() {
        check.sentence("i * 2 to the power 16 * h, o 0 inverted, 2 as it is, 3 d with these 16 bits");
        for (int h = 0; h < 4; h++) {
            for (long i : new long[] {0, 1, 0x8000, 0xFFFF}) {
                long moved = i << 16 * h;
                check.one(Check.MOVE, 1, 2, h, i, 0).leaves(0, moved);
                check.one(Check.MOVE, 1, 0, h, i, 0).leaves(0, ~moved);
                check.one(Check.MOVE, 1, 3, h, i, 0).with(0, 0).leaves(0, moved);
                check.one(Check.MOVE, 1, 3, h, i, 0).with(0, -1).leaves(0, moved - (0xFFFFL << 16 * h) - 1);
                if (h < 2) {
                    check.one(Check.MOVE, 0, 2, h, i, 0).leaves(0, moved);
                    check.one(Check.MOVE, 0, 0, h, i, 0).leaves(0, LOW - moved);
                    check.one(Check.MOVE, 0, 3, h, i, 0).with(0, -1).leaves(0, LOW - (0xFFFFL << 16 * h) + moved);
                }
            }
        }
    }

    private void movesThatAreNone() {
        check.sentence("o 1, or h above 1 with s 0: none.");
        for (int h = 0; h < 4; h++) {
            for (int s = 0; s < 2; s++) {
                check.one(Check.MOVE, s, 1, h, 0, 0).none();
                check.one(Check.MOVE, s, 1, h, 0xFFFF, 0).none();
            }
            for (int o : new int[] {0, 2, 3}) {
                if (h > 1) {
                    check.one(Check.MOVE, 0, o, h, 7, 0).none();
                    check.one(Check.MOVE, 0, o, h, 0, 31).none();
                }
            }
        }
        check.one(Check.MOVE, 0, 2, 1, 7, 0).leaves(0, 7 << 16);
        check.one(Check.MOVE, 1, 2, 3, 7, 0).leaves(0, 7L << 48);
    }

    private void places() {
        check.sentence("the number j i with sign: o 0 PC + it, o 1 PC (its lowest 12 bits 0) + 4096 * it.");
        long[] numbers = {0, 1, 2, 3, 4, -1, -4, -5, 1048575, -1048576, 524288, -524289};
        for (long number : numbers) {
            for (int pc : new int[] {0, 4, 4092, 4096, 8188, 65532}) {
                check.one(Check.PLACE, 0, number & 3, number >> 2, 0).at(pc).leaves(0, pc + number);
                check.one(Check.PLACE, 1, number & 3, number >> 2, 0).at(pc).leaves(0, (pc / 4096 + number) * 4096);
            }
        }
    }

    // ---- bits

    private void bitsThatAreNone() {
        check.sentence("o 3, w not s, r or l not below W: none.");
        for (int s = 0; s < 2; s++) {
            check.one(Check.BITS, s, 3, s, 0, 0, 1, 0).none();
            check.one(Check.BITS, s, 3, s, 31, 31, 1, 0).none();
            for (int o = 0; o < 3; o++) {
                check.one(Check.BITS, s, o, 1 - s, 0, 0, 1, 0).none();
                check.one(Check.BITS, s, o, 1 - s, 5, 9, 1, 0).none();
            }
        }
        for (int o = 0; o < 3; o++) {
            for (int over : new int[] {32, 33, 48, 63}) {
                check.one(Check.BITS, 0, o, 0, over, 0, 1, 0).none();
                check.one(Check.BITS, 0, o, 0, 0, over, 1, 0).none();
                check.one(Check.BITS, 0, o, 0, over, over, 1, 0).none();
            }
            check.one(Check.BITS, 0, o, 0, 31, 31, 1, 0).with(1, 0).with(0, 0).leaves();
            check.one(Check.BITS, 1, o, 1, 63, 63, 1, 0).with(1, 0).with(0, 0).leaves();
        }
    }

    /** BITS as its words tell it, bit by bit. */
    private static long run(int width, int o, int r, int l, long n, long d) {
        int from = l >= r ? r : 0;
        int to = l >= r ? 0 : width - r;
        int count = l - from + 1;
        long result = 0;
        for (int place = 0; place < width; place++) {
            int taken = bit(n, from + place - to & 63);
            if (place < to) {
                taken = o == 1 ? bit(d, place) : 0;
            } else if (place >= to + count) {
                taken = o == 1 ? bit(d, place) : o == 0 ? bit(n, l) : 0;
            }
            result |= (long) taken << place;
        }
        return result;
    }

    private void everyRunOfBits() {
        check.sentence("If l >= r: bits r .. l of n come to place 0 on, else bits 0 .. l come to place W - r on; the bits below these are 0, o 1: as in d; those above 0, o 1: as in d, o 0: as the highest one of these.");
        check.one(Check.BITS, 1, 0, 1, 63, 63, 1, 0).with(1, LEAST).leaves(0, -1);
        check.one(Check.BITS, 1, 2, 1, 0, 63, 1, 0).with(1, 77).leaves(0, 77);
        check.one(Check.BITS, 1, 2, 1, 63, 62, 1, 0).with(1, -1).leaves(0, -2);
        check.one(Check.BITS, 1, 2, 1, 1, 0, 1, 0).with(1, -1).leaves(0, LEAST);
        check.one(Check.BITS, 1, 1, 1, 4, 4, 1, 0).with(1, 16).with(0, 0xF0).leaves(0, 0xF1);
        check.one(Check.BITS, 1, 1, 1, 4, 3, 1, 0).with(1, 0).with(0, -1).leaves(0, 0x0FFFFFFFFFFFFFFFL);
        check.one(Check.BITS, 0, 0, 0, 31, 0, 1, 0).with(1, 1).leaves(0, 0xFFFFFFFEL);
        long[] sources = {0x9E3779B97F4A7C15L, 0x61C8864680B583EAL};
        for (int s = 0; s < 2; s++) {
            int width = s == 1 ? 64 : 32;
            for (int o = 0; o < 3; o++) {
                for (int all = 0; all < width * width; all++) {
                    int r = all / width, l = all % width;
                    long n = sources[(r + l) % 2];
                    GuardCore core = Check.with(Check.word(Check.BITS, s, o, s, r, l, 1, 0));
                    Check.put(core, 1, n);
                    Check.put(core, 0, n * 31);
                    String call = "bits " + s + " " + o + " " + r + " " + l;
                    check.same(call, core.step(1), 0);
                    check.same(call, Check.part(core, 0), run(width, o, r, l, n, n * 31));
                }
            }
        }
    }

    private void twiceThatIsNone() {
        check.sentence("w not s, l not below W: none");
        for (int l : new int[] {0, 1, 31, 32, 63}) {
            check.one(Check.TWICE, 0, 1, 2, l, 1, 0).none();
            check.one(Check.TWICE, 1, 0, 2, l, 1, 0).none();
            if (l > 31) {
                check.one(Check.TWICE, 0, 0, 2, l, 1, 0).none();
            }
        }
        check.one(Check.TWICE, 0, 0, 2, 33, 1, 0).none();
        check.one(Check.TWICE, 0, 0, 2, 31, 1, 0).with(1, 3).with(2, LOW).leaves(0, 7);
    }

    private void twice() {
        check.sentence("bits l .. l + W - 1 of n (above) and m.");
        long n = 0x0123456789ABCDEFL, m = 0xFEDCBA9876543210L;
        check.one(Check.TWICE, 1, 1, 2, 0, 1, 0).with(1, n).with(2, m).leaves(0, m);
        check.one(Check.TWICE, 1, 1, 2, 4, 1, 0).with(1, n).with(2, m).leaves(0, 0xFFEDCBA987654321L);
        check.one(Check.TWICE, 1, 1, 2, 32, 1, 0).with(1, n).with(2, m).leaves(0, 0x89ABCDEFFEDCBA98L);
        check.one(Check.TWICE, 1, 1, 2, 60, 1, 0).with(1, n).with(2, m).leaves(0, 0x123456789ABCDEFFL);
        check.one(Check.TWICE, 1, 1, 2, 63, 1, 0).with(1, n).with(2, m).leaves(0, 0x02468ACF13579BDFL);
        check.one(Check.TWICE, 0, 0, 2, 0, 1, 0).with(1, n).with(2, m).leaves(0, 0x76543210L);
        check.one(Check.TWICE, 0, 0, 2, 4, 1, 0).with(1, n).with(2, m).leaves(0, 0xF7654321L);
        check.one(Check.TWICE, 0, 0, 2, 31, 1, 0).with(1, n).with(2, m).leaves(0, 0x13579BDEL);
        check.one(Check.TWICE, 1, 1, 1, 1, 1, 0).with(1, 1).leaves(0, LEAST);
    }

    // ---- choices

    private void choose() {
        check.sentence("if c n, else m, o 1 inverted, u 1 (then) + 1.");
        long[][] rows = {
            {0, 0, 5, 5}, {0, 1, 5, 6}, {1, 0, 5, -6}, {1, 1, 5, -5}, {0, 1, -1, 0}, {1, 1, 0, 0}, {1, 0, 0, -1}, {1, 0, -1, 0},
            {1, 1, LEAST, LEAST}, {0, 1, MOST, LEAST}, {0, 1, LOW, 0x100000000L},
        };
        for (long[] row : rows) {
            check.one(Check.CHOOSE, 1, row[0], 2, 0, row[1], 1, 0).with(2, row[2]).with(Check.FLAGS, 11).leaves(0, row[3]);
            check.one(Check.CHOOSE, 0, row[0], 2, 0, row[1], 1, 0).with(2, row[2]).with(Check.FLAGS, 11).leaves(0, row[3] & LOW);
            check.one(Check.CHOOSE, 1, row[0], 2, 0, row[1], 1, 0).with(1, 9).with(Check.FLAGS, 4).leaves(0, 9);
            for (int c = 14; c < 16; c++) {
                check.one(Check.CHOOSE, 1, row[0], 2, c, row[1], 1, 0).with(1, -1).with(Check.FLAGS, c - 14).leaves(0, -1);
            }
        }
    }

    private void compare() {
        check.sentence("if c flags as of n + m, o 1: n - m (v 1: the number m itself), else N Z C V are g.");
        check.one(Check.COMPARE, 1, 1, 31, 14, 1, 1, 0).with(1, 31).leaves(Check.FLAGS, 6);
        check.one(Check.COMPARE, 1, 1, 31, 14, 1, 1, 0).with(1, 30).leaves(Check.FLAGS, 8);
        check.one(Check.COMPARE, 1, 1, 2, 14, 1, 1, 0).with(1, 2).with(2, 99).leaves(Check.FLAGS, 6);
        check.one(Check.COMPARE, 1, 0, 1, 14, 1, 1, 0).with(1, -1).leaves(Check.FLAGS, 6);
        check.one(Check.COMPARE, 0, 0, 1, 14, 1, 1, 0).with(1, JUNK | 0x7FFFFFFF).leaves(Check.FLAGS, 9);
        check.one(Check.COMPARE, 0, 1, 0, 14, 1, 1, 0).with(1, JUNK).leaves(Check.FLAGS, 6);
        check.one(Check.COMPARE, 1, 1, 31, 14, 0, 1, 0).with(1, 31).leaves(Check.FLAGS, 2);
        for (int g = 0; g < 16; g++) {
            check.one(Check.COMPARE, 1, 1, 2, 0, 0, 1, g).with(Check.FLAGS, 11).leaves(Check.FLAGS, g);
            check.one(Check.COMPARE, 0, 0, 2, 1, 1, 1, g).with(Check.FLAGS, 4).leaves(Check.FLAGS, g);
        }
    }

    // ---- products and quotients

    private void times() {
        check.sentence("a + n * m, o 1: a - n * m.");
        long[][] rows = {
            {7, 3, 5, 22, -8}, {0, -1, -1, 1, -1}, {0, LEAST, 2, 0, 0}, {0, LEAST, -1, LEAST, LEAST}, {-1, MOST, MOST, 0, -2},
            {5, 0, 9, 5, 5}, {MOST, 1, 1, LEAST, MOST - 1}, {0, 0x100000000L, 0x100000000L, 0, 0},
        };
        for (long[] row : rows) {
            for (int o = 0; o < 2; o++) {
                check.one(Check.TIMES, 1, 2, o, 3, 1, 0).with(3, row[0]).with(1, row[1]).with(2, row[2]).leaves(0, row[3 + o]);
                check.one(Check.TIMES, 0, 2, o, 3, 1, 0).with(3, row[0]).with(1, row[1]).with(2, row[2]).leaves(0, row[3 + o] & LOW);
            }
        }
    }

    private void upperTimes() {
        check.sentence("the upper 64 bits of n * m, with signs, u 1: without.");
        long[][] rows = {
            {-1, -1, 0, -2}, {-1, 1, -1, 0}, {LEAST, LEAST, 1L << 62, 1L << 62}, {LEAST, -1, 0, MOST}, {MOST, MOST, 0x3FFFFFFFFFFFFFFFL, 0x3FFFFFFFFFFFFFFFL},
            {LEAST, 2, -1, 1}, {0, -1, 0, 0}, {1L << 32, 1L << 32, 1, 1}, {1L << 32, (1L << 32) - 1, 0, 0}, {LEAST, MOST, -0x4000000000000000L, 0x3FFFFFFFFFFFFFFFL},
            {-1, 2, -1, 1},
        };
        for (long[] row : rows) {
            for (int u = 0; u < 2; u++) {
                check.one(Check.HIGH, u, 2, 1, 0).with(1, row[0]).with(2, row[1]).leaves(0, row[2 + u]);
                check.one(Check.HIGH, u, 2, 1, 0).with(1, row[1]).with(2, row[0]).leaves(0, row[2 + u]);
            }
        }
    }

    private void quotients() {
        check.sentence("o 2 n / m without signs, 3 with (towards 0; by 0: 0; beyond: as it wraps)");
        long[][] rows = {
            {7, 2, 3, 3}, {-7, 2, 0x7FFFFFFFFFFFFFFCL, -3}, {7, -2, 0, -3}, {-7, -2, 0, 3}, {5, 0, 0, 0}, {-5, 0, 0, 0}, {0, 0, 0, 0},
            {LEAST, -1, 0, LEAST}, {LEAST, 1, LEAST, LEAST}, {-1, 1, -1, -1}, {-1, -1, 1, 1}, {-1, MOST, 2, 0}, {MOST, -1, 0, -MOST},
            {-2, -1, 0, 2}, {-1, -2, 1, 0}, {LEAST, 2, 1L << 62, -(1L << 62)}, {LEAST, LEAST, 1, 1}, {-1, 3, 0x5555555555555555L, 0},
            {-3, LEAST, 1, 0}, {-1, 10, 0x1999999999999999L, 0},
        };
        for (long[] row : rows) {
            check.one(Check.TWO, 1, 2, 2, 1, 0).with(1, row[0]).with(2, row[1]).leaves(0, row[2]);
            check.one(Check.TWO, 1, 2, 3, 1, 0).with(1, row[0]).with(2, row[1]).leaves(0, row[3]);
        }
        long least = 0x80000000L;
        long[][] narrow = {
            {7, 2, 3, 3}, {LOW - 6, 2, 0x7FFFFFFCL, LOW - 2}, {5, 0, 0, 0}, {least, LOW, 0, least}, {least, 1, least, least},
            {LOW, LOW, 1, 1}, {0, 0, 0, 0}, {least, 2, 1 << 30, LOW - (1 << 30) + 1},
        };
        for (long[] row : narrow) {
            check.one(Check.TWO, 0, 2, 2, 1, 0).with(1, JUNK | row[0]).with(2, JUNK | row[1]).leaves(0, row[2]);
            check.one(Check.TWO, 0, 2, 3, 1, 0).with(1, JUNK | row[0]).with(2, JUNK | row[1]).leaves(0, row[3]);
        }
    }

    private void shiftsByRegisters() {
        check.sentence("8, 9, 10, 11: n moved left, right, right with its sign, turned right, by m modulo W");
        long value = 0x8000000000000003L;
        long[][] wide = {
            {0, value, value, value, value}, {1, 6, 0x4000000000000001L, 0xC000000000000001L, 0xC000000000000001L},
            {63, LEAST, 1, -1, 7},
        };
        for (long[] row : wide) {
            for (long more : new long[] {0, 64, 128, 1L << 32, LEAST, -64}) {
                for (int o = 0; o < 4; o++) {
                    check.one(Check.TWO, 1, 2, 8 + o, 1, 0).with(1, value).with(2, row[0] + more).leaves(0, row[1 + o]);
                }
            }
        }
        long[][] narrow = {
            {0, 0x80000003L, 0x80000003L, 0x80000003L, 0x80000003L}, {1, 6, 0x40000001L, 0xC0000001L, 0xC0000001L},
            {31, 0x80000000L, 1, LOW, 7},
        };
        for (long[] row : narrow) {
            for (long more : new long[] {0, 32, 64, 1L << 32, LEAST, -32}) {
                for (int o = 0; o < 4; o++) {
                    check.one(Check.TWO, 0, 2, 8 + o, 1, 0).with(1, JUNK | 0x80000003L).with(2, row[0] + more).leaves(0, row[1 + o]);
                }
            }
        }
    }

    private void twoThatAreNone() {
        check.sentence("by m modulo W; others none.");
        for (int s = 0; s < 2; s++) {
            for (int o = 0; o < 64; o++) {
                One one = check.one(Check.TWO, s, 2, o, 1, 0).with(1, 5).with(2, 0);
                if (o == 2 || o == 3) {
                    one.leaves(0, 0);
                } else if (o >= 8 && o <= 11) {
                    one.leaves(0, 5);
                } else {
                    one.none();
                }
            }
        }
    }

    // ---- one register

    private void turnedRound() {
        check.sentence("o 0 all bits the other way round, 1 the bytes of each 2, 2 of each 4, 3 (s 1) of each 8");
        long value = 0x0123456789ABCDEFL;
        long[] wide = {0xF7B3D591E6A2C480L, 0x23016745AB89EFCDL, 0x67452301EFCDAB89L, 0xEFCDAB8967452301L};
        long[] narrow = {0xF7B3D591L, 0xAB89EFCDL, 0xEFCDAB89L};
        for (int o = 0; o < 4; o++) {
            check.one(Check.ONE, 1, o, 1, 0).with(1, value).leaves(0, wide[o]);
            if (o < 3) {
                check.one(Check.ONE, 0, o, 1, 0).with(1, value).leaves(0, narrow[o]);
            }
        }
        check.one(Check.ONE, 0, 3, 1, 0).with(1, value).none();
        check.one(Check.ONE, 1, 0, 1, 0).with(1, 1).leaves(0, LEAST);
        check.one(Check.ONE, 0, 0, 1, 0).with(1, 1).leaves(0, 0x80000000L);
    }

    private void counts() {
        check.sentence("4 how many 0s are above the highest 1, 5 how many bits behind the highest are like it");
        long[][] rows = {
            {0, 64, 63, 32, 31}, {1, 63, 62, 31, 30}, {-1, 0, 63, 0, 31}, {LEAST, 0, 0, 32, 31}, {MOST, 1, 0, 0, 31},
            {0x80000000L, 32, 31, 0, 0}, {LOW, 32, 31, 0, 31}, {0x7FFFFFFFL, 33, 32, 1, 0}, {0x100000000L, 31, 30, 32, 31},
            {0xC000000000000001L, 0, 1, 31, 30}, {-2, 0, 62, 0, 30}, {0xFFFFFFFF00000000L, 0, 31, 32, 31}, {0xA0000000L, 32, 31, 0, 0},
        };
        for (long[] row : rows) {
            check.one(Check.ONE, 1, 4, 1, 0).with(1, row[0]).leaves(0, row[1]);
            check.one(Check.ONE, 1, 5, 1, 0).with(1, row[0]).leaves(0, row[2]);
            check.one(Check.ONE, 0, 4, 1, 0).with(1, row[0]).leaves(0, row[3]);
            check.one(Check.ONE, 0, 5, 1, 0).with(1, row[0]).leaves(0, row[4]);
        }
    }

    private void onesThatAreNone() {
        check.sentence("5 how many bits behind the highest are like it; others none.");
        for (int s = 0; s < 2; s++) {
            for (int o = 6; o < 64; o++) {
                check.one(Check.ONE, s, o, 1, 0).none();
            }
        }
        check.one(Check.ONE, 0, 3, 1, 0).none();
        check.one(Check.ONE, 1, 5, 1, 0).with(1, 0).leaves(0, 63);
    }
}
