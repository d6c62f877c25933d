/** Promises 2 and 3: poke and peek. */
public final class MemoryTest {
    private static final int[] NO_WORDS = {
        -4, -1, 1, 2, 3, 5, 65533, 65534, 65535, 65536, 65540, 131072,
        Integer.MIN_VALUE, Integer.MAX_VALUE, Integer.MAX_VALUE - 3,
    };

    public static void main(String[] args) {
        Check check = new Check();
        everyWord(check);
        pokedAgain(check);
        wrongPlaces(check);
        lowestByteFirst(check);
        check.end();
    }

    private static void everyWord(Check check) {
        for (int first = 0; first < 65536; first += 512) {
            GuardCore core = new GuardCore();
            for (int address = first; address < first + 512; address += 4) {
                check.isTrue("poke(" + address + ")", core.poke(address, address * 0x9E3779B1));
            }
            for (int address = first; address < first + 512; address += 4) {
                check.same("peek(" + address + ")", core.peek(address), address * 0x9E3779B1);
            }
            check.same("below " + first, core.peek(first - 4), 0);
            check.same("above " + first, core.peek(first + 512), 0);
        }
        // words that would meet if an address lost a bit
        GuardCore far = new GuardCore();
        for (int address = 4; address < 65536; address *= 2) {
            far.poke(address, address);
        }
        check.same("peek(0)", far.peek(0), 0);
        for (int address = 4; address < 65536; address *= 2) {
            check.same("peek(" + address + ")", far.peek(address), address);
        }
    }

    private static void pokedAgain(Check check) {
        GuardCore core = new GuardCore();
        core.poke(65528, 65528 * 0x9E3779B1);
        core.poke(65532, -1);
        core.poke(65532, 0);
        check.same("a word goes back to 0", core.peek(65532), 0);
        check.same("the word below stays", core.peek(65528), 65528 * 0x9E3779B1);
    }

    private static void wrongPlaces(Check check) {
        GuardCore core = new GuardCore();
        for (int address : NO_WORDS) {
            check.isFalse("poke(" + address + ")", core.poke(address, -1));
            check.same("peek(" + address + ")", core.peek(address), 0);
        }
        for (int address : new int[] {0, 4, 65528, 65532}) {
            check.same("nothing was written at " + address, core.peek(address), 0);
        }
        core.poke(0, -1);
        core.poke(4, -1);
        for (int address = 1; address < 4; address++) {
            check.same("peek(" + address + ")", core.peek(address), 0);
        }
    }

    private static void lowestByteFirst(Check check) {
        int[] due = {0x04, 0x03, 0x02, 0x81, 0x14};
        for (int i = 0; i < due.length; i++) {
            GuardCore core = Check.with(Check.word(Check.SCALED, 0, 1, i, 1, 0));
            core.poke(8192, 0x81020304);
            core.poke(8196, 0x11121314);
            Check.put(core, 1, 8192);
            core.step(1);
            check.same("byte " + i, Check.part(core, 0), due[i]);
        }
    }
}
