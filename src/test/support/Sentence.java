import java.io.IOException;
import java.nio.file.Files;
import java.nio.file.Path;
import java.util.ArrayList;
import java.util.List;
import java.util.NoSuchElementException;

/**
 * What the tests by sentences share: each test names the promise and quotes the sentence that it is for, and the
 * quote is looked up in the document, so that no test speaks for words that do not stand there.
 */
final class Sentence {
    static final int NONE = -1;
    static final int NO_SUCH = Integer.MIN_VALUE + 1;
    static final int ILLEGAL = Integer.MIN_VALUE + 2;
    private static final int OTHER_EXCEPTION = Integer.MIN_VALUE + 3;

    // Two boxes, three people: 0 and 1 think into box 0 at each other, 2 thinks into box 1 at 0.
    static final String STREET =
        "box 5 20;box 20 3;person 4 4 at 1;person 10 2 at 0;person 25 6 at 0;wet 4 0;";

    private static final String DOCUMENT = readDocument();

    private static int wrong = 0;
    private static int tests = 0;
    private static String current = "";

    private Sentence() {
    }

    interface Call {
        int answer();
    }

    private static String readDocument() {
        try {
            return Files.readString(Path.of("..", "shared", "DOC.md")).replaceAll("\\s+", " ");
        } catch (IOException e) {
            throw new IllegalStateException("run from the project's directory: ../shared/DOC.md is not there", e);
        }
    }

    /** Begins the test of one sentence of the document. */
    static void of(int promise, String words) {
        tests++;
        current = "promise " + promise + ", \"" + words + "\"";
        if (!DOCUMENT.contains(words)) {
            wrong++;
            System.out.println(current + ": the document has no such words");
        }
    }

    /** Ends the program, as every test does: with 1 if an answer was not the one that is due. */
    static void end() {
        System.out.println(tests + " sentences, " + wrong + " answers are wrong");
        System.exit(wrong == 0 ? 0 : 1);
    }

    static void due(int want, Call call) {
        int got;
        String thrown = "";
        try {
            got = call.answer();
        } catch (RuntimeException e) {
            // Their own classes, not ones below them, which the machine or the library might throw.
            got = e.getClass() == NoSuchElementException.class ? NO_SUCH
                : e.getClass() == IllegalArgumentException.class ? ILLEGAL : OTHER_EXCEPTION;
            thrown = e.toString();
        }
        if (got != want) {
            StackTraceElement at = new Throwable().getStackTrace()[1];
            tellWrong(at.getFileName() + " line " + at.getLineNumber() + ": answered "
                + (thrown.isEmpty() ? "" + got : thrown) + ", due is " + name(want));
        }
    }

    /** The same answer is due for each of these numbers. */
    static void dueForEach(int want, OneNumber call, int... numbers) {
        for (int number : numbers) {
            due(want, () -> call.answer(number));
        }
    }

    interface OneNumber {
        int answer(int number);
    }

    static void tellWrong(String what) {
        wrong++;
        System.out.println(current + ": " + what);
    }

    private static String name(int answer) {
        return answer == NO_SUCH ? "NoSuchElementException"
            : answer == ILLEGAL ? "IllegalArgumentException" : "" + answer;
    }

    static int bit(boolean is) {
        return is ? 1 : 0;
    }

    // ---- texts ----

    /** Puts the text on the tape; what fills up its last twenty bytes could stand nowhere. */
    static void feed(SlotMat x, String text) {
        for (int i = 0; i < text.length(); i += 20) {
            int[] a = new int[5];
            for (int k = 0; k < 20; k++) {
                a[k / 4] = a[k / 4] << 8 | (i + k < text.length() ? text.charAt(i + k) : '?');
            }
            x.feed(a[0], a[1], a[2], a[3], a[4]);
        }
    }

    static int tell(SlotMat x, String text) {
        feed(x, text);
        return x.city(text.length());
    }

    static SlotMat told(String text) {
        SlotMat x = new SlotMat();
        int fault = tell(x, text);
        if (fault != 0) {
            tellWrong("fault " + fault + " at " + x.fault() + " of " + text);
        }
        return x;
    }

    static SlotMat toldOnStrike(String text) {
        SlotMat x = told(text);
        x.strike(true);
        return x;
    }

    static void fault(int code, int place, String text) {
        SlotMat x = new SlotMat();
        int got = tell(x, text);
        if (got != code || x.fault() != place) {
            tellWrong("fault " + got + " at " + x.fault() + ", due is " + code + " at " + place + " of " + text);
        }
    }

    static void isCity(String text) {
        fault(0, NONE, text);
    }

    static String many(int times, String text) {
        return text.repeat(times);
    }

    // ---- all that can be seen ----

    /** What the plain questions answer, but for the tape and STATUS: those have sentences of their own. */
    static List<Integer> seen(SlotMat x) {
        List<Integer> all = new ArrayList<>();
        for (int what = 0; what < 12; what++) {
            all.add(x.count(what));
        }
        for (int box = 0; box < x.count(0); box++) {
            all.add(x.box(box, 0));
            all.add(x.box(box, 1));
            for (int person = 0; person < x.count(1); person++) {
                all.add(x.held(box, person));
            }
        }
        for (int person = 0; person < x.count(1); person++) {
            for (int what = 0; what < 5; what++) {
                all.add(x.person(person, what));
            }
        }
        return all;
    }

    /** Nothing that can be seen may be otherwise behind these calls. */
    static void changesNothing(SlotMat x, Runnable calls) {
        List<Integer> before = seen(x);
        calls.run();
        List<Integer> behind = seen(x);
        if (!before.equals(behind)) {
            tellWrong("it was " + before + ", and is " + behind);
        }
    }
}
