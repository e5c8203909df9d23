import java.io.IOException;
import java.nio.file.Files;
import java.nio.file.Path;
import java.util.ArrayList;
import java.util.List;

/** README.md's examples answer what it says they answer. */
public final class ReadmeTest {
    private static final Due DUE = new Due();
    private static final List<String> EXAMPLES = new ArrayList<>();
    private static int at;

    public static void main(String[] args) throws IOException {
        takeExamples();
        statements();
        orders();
        DUE.is("calls in the examples", EXAMPLES.size(), at);
        DUE.end();
    }

    /** The lines of the examples in which an answer is told. */
    private static void takeExamples() throws IOException {
        for (String line : Files.readAllLines(Path.of("README.md"))) {
            if (line.matches("[xy]\\..*; *// .*")) {
                EXAMPLES.add(line);
            }
        }
    }

    private static void told(String call, Object answer) {
        String line = at < EXAMPLES.size() ? EXAMPLES.get(at) : "none";
        at++;
        DUE.is("README: '" + line + "' is " + call, line.startsWith(call + ";"), true);
        String comment = line.replaceFirst(".*// ", "").replaceFirst(":.*", "");
        DUE.is("README: '" + line + "' answers " + answer, comment.equals(String.valueOf(answer)), true);
    }

    private static void statements() {
        DelayMachine x = new DelayMachine();
        told("x.statement(0, 0, 1, 2, 0)", x.statement(0, 0, 1, 2, 0));
        told("x.statement(3, 2, 0, 0, 0)", x.statement(3, 2, 0, 0, 0));
        told("x.assemble()", x.assemble());
        told("x.word(2, x.variable(0), (short) 40)", x.word(2, x.variable(0), (short) 40));
        told("x.word(2, x.variable(1), (short) 2)", x.word(2, x.variable(1), (short) 2));
        told("x.start(x.placed(0) / 32, x.placed(0) % 32)", x.start(x.placed(0) / 32, x.placed(0) % 32));
        told("x.run(2000)", x.run(2000));
        told("x.punched(0)", x.punched(0));
    }

    private static void orders() {
        DelayMachine y = new DelayMachine();
        told("y.word(6, 0, (short) 6)", y.word(6, 0, (short) 6));
        told("y.word(7, 0, (short) 7)", y.word(7, 0, (short) 7));
        told("y.order(0, 0, 6 | 13 << 4 | 16 << 15)", y.order(0, 0, 6 | 13 << 4 | 16 << 15));
        told("y.order(0, 18, 0 | 1 << 4 | 31 << 15)", y.order(0, 18, 0 | 1 << 4 | 31 << 15));
        told("y.start(0, 0)", y.start(0, 0));
        told("y.run(2000)", y.run(2000));
        told("y.peek(8, 0)", y.peek(8, 0));
    }
}
