import java.io.IOException;
import java.nio.file.Files;
import java.nio.file.Path;

/** What README.md shows answers as it says there; a change of one needs the other. */
public final class ReadmeTest {
    private static StringBuilder shown = new StringBuilder();

    public static void main(String[] args) throws IOException {
        StackDesk desk = new StackDesk();
        append(desk, 0x6465736b, 0x20323b70, 0x726f6365, 0x73732061, 0x206d6179);
        append(desk, 0x20303a70, 0x75736820, 0x37206c61, 0x7920303b, 0x70726f63);
        append(desk, 0x65737320, 0x62206d61, 0x7920303a, 0x74616b65, 0x20302073);
        append(desk, 0x61793b73, 0x7461636b, 0x20322077, 0x69746820, 0x613b0000);
        show("load()", desk.load());
        show("turnsLeft()", desk.turnsLeft());
        show("run(1)", desk.run(1));
        show("slot(0)", desk.slot(0));
        show("number(0, 0)", desk.number(0, 0));
        show("wouldSay(1, 5)", desk.wouldSay(1, 5));
        show("run(300)", desk.run(300));
        show("said(1, 0)", desk.said(1, 0));
        show("process(1, 3)", desk.process(1, 3));
        show("put(0, 5)", desk.put(0, 5));
        show("put(0, 6)", desk.put(0, 6));
        show("put(0, 7)", desk.put(0, 7));
        show("writeStacks()", desk.writeStacks());
        show("writtenByte(0)", desk.writtenByte(0));
        show("undo()", desk.undo());
        Check.same("calls that README.md shows", example(), shown.toString());
        Check.end();
    }

    private static void append(StackDesk desk, int a, int b, int c, int d, int e) {
        desk.append(a, b, c, d, e);
        shown.append(String.format("append(0x%08x, 0x%08x, 0x%08x, 0x%08x, 0x%08x);%n", a, b, c, d, e));
    }

    private static void show(String call, int answer) {
        shown.append(call).append("; ").append(answer).append(System.lineSeparator());
    }

    /** The calls of the example and the numbers at the beginning of the comments behind them. */
    private static String example() throws IOException {
        StringBuilder text = new StringBuilder();
        boolean inside = false;
        for (String line : Files.readAllLines(Path.of(System.getProperty("root", "."), "README.md"))) {
            if (line.startsWith("```")) {
                inside = line.equals("```java");
            } else if (inside && line.startsWith("desk.")) {
                text.append(line.replaceFirst("^desk\\.", "").replaceFirst("; +// (-?\\d+).*", "; $1"));
                text.append(System.lineSeparator());
            }
        }
        return text.toString();
    }
}
