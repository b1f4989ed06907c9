import java.io.IOException;
import java.nio.file.Files;
import java.nio.file.Path;
import java.util.List;

/** The example in README.md: every line of it is there as it is called here, with the answer that it is given there. */
public final class ReadmeTest {
    private static List<String> readme;

    public static void main(String[] args) throws IOException {
        readme = Files.readAllLines(Path.of("README.md"));
        BorderTracer tracer = new BorderTracer(5, 5);
        int[] rows = {0b11111, 0b10001, 0b10101, 0b10001, 0b11111};
        shows("BorderTracer tracer = new BorderTracer(5, 5);");
        for (int y = 0; y < 5; y++) {
            shows("tracer.setRow(" + y + ", 0b" + Integer.toBinaryString(rows[y]) + ");");
            tracer.setRow(y, rows[y]);
        }
        answers("tracer.trace();", tracer.trace());
        answers("tracer.contourKind(1);", tracer.contourKind(1) == BorderTracer.KIND_HOLE ? "KIND_HOLE" : "another");
        answers("tracer.contourParent(2);", tracer.contourParent(2));
        answers("tracer.contourStart(1);", tracer.contourStart(1));
        answers("tracer.contourLength(1);", tracer.contourLength(1));
        answers("tracer.contourArea(1);", tracer.contourArea(1));
        boolean top = tracer.hasEdge(2, 2, 2, BorderTracer.SIDE_TOP);
        answers("tracer.hasEdge(2, 2, 2, BorderTracer.SIDE_TOP);", top);
        answers("tracer.contourOf(1, 1);", tracer.contourOf(1, 1));
        answers("tracer.toggleFill(1);", tracer.toggleFill(1));
        answers("tracer.fillAll();", tracer.fillAll());
        answers("tracer.filledEqualsBitmap();", tracer.filledEqualsBitmap());
        everyCallIsTold();
        Check.finish();
    }

    private static void shows(String call) {
        Check.due("the line " + call, readme.contains(call), true);
    }

    private static void answers(String call, Object answer) {
        String told = "no such line";
        for (String line : readme) {
            if (line.startsWith(call)) {
                told = line.substring(call.length()).replaceFirst("^ *// ", "").replaceFirst(":.*", "");
            }
        }
        Check.due(call, String.valueOf(answer), told);
    }

    private static void everyCallIsTold() {
        for (var method : BorderTracer.class.getDeclaredMethods()) {
            boolean open = java.lang.reflect.Modifier.isPublic(method.getModifiers());
            boolean told = readme.stream().anyMatch(line -> line.startsWith("| `" + method.getName() + "("));
            Check.due(method.getName() + " is in the table", told || !open, true);
        }
    }
}
