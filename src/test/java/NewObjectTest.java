/** Promise 1: a new object. */
public final class NewObjectTest {
    public static void main(String[] args) {
        Check check = new Check();
        check.same("NONE", GuardCore.NONE, -1);
        GuardCore core = new GuardCore();
        for (int part = 0; part < 46; part++) {
            int due = part >= Check.LEVEL ? 1 : 0;
            check.same("low(" + part + ")", core.low(part), due);
            check.same("high(" + part + ")", core.high(part), 0);
        }
        for (int first = 0; first < 65536; first += 1024) {
            GuardCore fresh = new GuardCore();
            for (int address = first; address < first + 1024; address += 4) {
                check.same("peek(" + address + ")", fresh.peek(address), 0);
            }
        }
        GuardCore other = new GuardCore();
        core.poke(0, 7);
        core.set(0, 1, 2);
        check.same("memory is the object's own", other.peek(0), 0);
        check.same("the state is the object's own", Check.part(other, 0), 0);
        // the word 0 is no instruction, and no interrupt is there
        Check.put(other, Check.MASK, 0);
        check.same("step(1)", other.step(1), 1);
        check.same("ESR", Check.part(other, Check.ESR), Check.esr(0, 0));
        check.same("PC", Check.part(other, Check.PC), 512);
        check.end();
    }
}
