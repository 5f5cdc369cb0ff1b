import java.io.IOException;
import java.lang.reflect.Method;
import java.nio.file.Files;
import java.nio.file.Path;

/** README.md: its example answers what it says, and all calls and refusals are named there. */
public final class ReadmeTest {
    public static void main(String[] args) throws IOException {
        example();
        namesAll(Files.readString(Path.of("README.md")));
        Due.end();
    }

    private static void example() {
        DeedProofs office = new DeedProofs();
        Due.is("feed", office.feed(0x7328612c622c6329L, 8), 8);
        Due.is("feed more", office.feed(0x3e6f28622c612c63L, 8), 16);
        Due.is("feed the rest", office.feed(0x29, 1), 17);
        Due.is("rule", office.rule(), 0);
        Due.is("paper", office.paper(160, 0), 0);
        Due.is("s(1,2,0)", Due.fact("s120"), 160);
        Due.is("follows", office.follows(55, 0, 1), 1);
        Due.is("o(2,1,0)", Due.fact("o210"), 55);
        Due.is("proof", office.proof(0), 0);
        Due.is("step", office.step(0, 0, 125 + 50, 1, 0, 0, 0), 0);
        Due.is("check", office.check(0, 0), 1);
        Due.is("title", office.title(0), 0);
        Due.is("stand", office.stand(0, 0), 1);
        Due.is("shown", office.shown(0, true), 0);
        Due.is("stand no more", office.stand(0, 0), 0);
        Due.is("lacks", office.lacks(0, 0, 0), 10);
        Due.is("refused", office.step(0, 0, 0, 1, 0, 0, 0), DeedProofs.STATE);
    }

    private static void namesAll(String readme) {
        for (Method call : DeedProofs.class.getMethods()) {
            if (call.getDeclaringClass() == DeedProofs.class) {
                Due.holds("README names " + call.getName(), readme.contains("`" + call.getName() + "`"));
            }
        }
        for (String refusal : new String[] {"NONE` | -1", "BAD` | -2", "STATE` | -3", "FULL` | -4"}) {
            Due.holds("README tells " + refusal, readme.contains("`DeedProofs." + refusal));
        }
    }
}
