import java.io.IOException;
import java.nio.ByteBuffer;
import java.nio.charset.StandardCharsets;
import java.nio.file.Files;
import java.nio.file.Path;
import java.util.List;

/** The example of README.md: each call there answers what stands beside it. */
public final class Readme {
    private static List<String> lines;
    private static int shown = 0;
    private static int wrong = 0;

    public static void main(String[] args) throws IOException {
        lines = Files.readAllLines(Path.of("README.md"));
        SlotMat x = new SlotMat();
        answers("read(x, text)", read(x, exampleText()));
        answers("x.person(2, 5)", x.person(2, 5));
        answers("x.days(3)", x.days(3));
        answers("x.count(6)", x.count(6));
        answers("x.person(0, 4)", x.person(0, 4));
        answers("x.write(2)", x.write(2));
        answers("x.undo()", x.undo());
        answers("x.later(1, 10, 1)", x.later(1, 10, 1));
        answers("x.full(1, 12)", x.full(1, 12));
        answers("x.ring(0)", x.ring(0));
        answers("x.order(SlotMat.NONE)", x.order(SlotMat.NONE));
        answers("x.order(0)", x.order(0));
        answers("x.years(5, 30, 0)", x.years(5, 30, 0));
        answers("read(x, \"box 31 0;\")", read(x, "box 31 0;"));
        answers("x.fault()", x.fault());
        // A call that README.md shows and this test does not would stand there untried.
        if (shownInAll() != shown) {
            wrong++;
            System.out.println("README.md shows " + shownInAll() + " calls, tried are " + shown);
        }
        System.out.println(wrong == 0 ? "README.md shows what is so" : wrong + " lines of README.md are wrong");
        System.exit(wrong == 0 ? 0 : 1);
    }

    private static int read(SlotMat x, String text) {
        byte[] bytes = text.getBytes(StandardCharsets.US_ASCII);
        ByteBuffer tape = ByteBuffer.allocate((bytes.length + 19) / 20 * 20);
        tape.put(bytes).rewind();
        while (tape.hasRemaining()) {
            x.feed(tape.getInt(), tape.getInt(), tape.getInt(), tape.getInt(), tape.getInt());
        }
        return x.city(bytes.length);
    }

    private static String exampleText() {
        int begin = lines.indexOf("```text");
        StringBuilder text = new StringBuilder();
        for (int i = begin + 1; begin >= 0 && !lines.get(i).equals("```"); i++) {
            text.append(lines.get(i)).append('\n');
        }
        return text.toString();
    }

    private static void answers(String call, int answer) {
        shown++;
        for (String line : lines) {
            if (line.matches("\\Q" + call + "\\E +// " + answer + ":.*")) {
                return;
            }
        }
        wrong++;
        System.out.println(call + " answers " + answer + ", README.md shows something else");
    }

    private static int shownInAll() {
        int many = 0;
        for (String line : lines) {
            if (line.matches("\\S.* // -?\\d+:.*")) {
                many++;
            }
        }
        return many;
    }
}
