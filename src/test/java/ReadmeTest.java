import java.io.IOException;
import java.nio.file.Files;
import java.nio.file.Path;

/** The example of README.md: its lines are there as they are called here, with the answers that it tells. */
public final class ReadmeTest {
    public static void main(String[] args) throws IOException {
        Check check = new Check();
        String readme = Files.readString(Path.of("README.md")).replaceAll(" +", " ");
        GuardCore core = new GuardCore();
        check.isTrue("poke", core.poke(256, 0xD2800540));
        check.isTrue("poke", core.poke(260, 0xD4000021));
        check.isTrue("set", core.set(33, 0, 256));
        check.isTrue("set", core.set(36, 0, 32768));
        String[] calls = {"step(1)", "low(0)", "step(1)", "low(33)", "low(39)", "look(0, 256, 2, 1)", "look(1, 0, 0, 1)"};
        int[] answers = {core.step(1), core.low(0), core.step(1), core.low(33), core.low(39), core.look(0, 256, 2, 1),
            core.look(1, 0, 0, 1)};
        int from = 0;
        for (int i = 0; i < calls.length; i++) {
            int at = readme.indexOf("core." + calls[i] + "; // " + answers[i], from);
            check.isTrue(calls[i] + " answers " + answers[i] + " in README.md", at >= from);
            from = Math.max(from, at);
        }
        check.end();
    }
}
