import java.io.IOException;
import java.nio.file.Files;
import java.nio.file.Path;
import java.util.function.IntToLongFunction;

/** What the tests share: texts become bridges, answers are held against what is due, and a run ends with the tally. */
abstract class Asking {
    static final int NONE = -1, UNKNOWN = -101, OUTSIDE = -102, STATE = -103, FULL = -104;
    static final int LOW = Integer.MIN_VALUE, HIGH = Integer.MAX_VALUE;
    private static final Path DOCUMENT = Path.of("../shared/DOC.md");

    private static String document = null;
    private static String sentence = "";
    private static int asked = 0, wrong = 0;

    /** What is asked from here on is due by these words; they must stand in the document, so that none is made up. */
    static void sentence(String words) {
        sentence = words;
        if (!documentText().contains(words)) fail("these words are not in the document");
    }

    private static String documentText() {
        if (document != null) return document;
        try {
            document = Files.readString(DOCUMENT).replaceAll("\\s+", " ");
        } catch (IOException e) {
            throw new IllegalStateException("no document at " + DOCUMENT, e);
        }
        return document;
    }

    static void fail(String what) {
        wrong++;
        System.out.println("\"" + sentence + "\": " + what);
    }

    static void due(String what, long got, long want) {
        asked++;
        if (got != want) fail(what + " answered " + got + ", due is " + want);
    }

    static void due(int promise, String what, long got, long want) {
        sentence = "promise " + promise;
        due(what, got, want);
    }

    static boolean isRefusal(long answer) {
        return answer <= UNKNOWN && answer >= FULL;
    }

    /** The last numbers that are told are answered, on both sides; the first ones beyond are refused and change nothing. */
    static void range(NineBridges x, String what, int low, int high, int refusal, IntToLongFunction call) {
        for (int v : new int[] {low, high}) {
            asked++;
            long got = call.applyAsLong(v);
            if (isRefusal(got)) fail(what + " " + v + " was refused: " + got);
        }
        for (int v : new int[] {low - 1, high + 1, LOW, HIGH}) refused(x, what + " " + v, refusal, () -> call.applyAsLong(v));
    }

    interface Call {
        long answer();
    }

    static void refused(NineBridges x, String what, int refusal, Call call) {
        long ahead = x.digest();
        due(what, call.answer(), refusal);
        due(what + ": digest() behind the refusal", x.digest(), ahead);
    }

    static long packed(String s) {
        long w = 0;
        for (int i = s.length() - 1; i >= 0; i--) w = w << 8 | s.charAt(i);
        return w;
    }

    static void write(NineBridges x, String s) {
        for (int i = 0; i < s.length(); i += 8) x.letters(packed(s.substring(i, Math.min(s.length(), i + 8))));
    }

    static NineBridges with(String... texts) {
        NineBridges x = new NineBridges();
        for (String text : texts) add(x, text);
        return x;
    }

    static NineBridges inFrost(String... texts) {
        NineBridges x = with(texts);
        x.frost(true);
        return x;
    }

    /** An empty page is needed ahead of it. */
    static void add(NineBridges x, String text) {
        int number = x.count(0);
        write(x, text);
        due("bridge() of " + text, x.bridge(), number);
    }

    static NineBridges written(String page) {
        NineBridges x = new NineBridges();
        write(x, page);
        return x;
    }

    static String[] times(int many, String text) {
        String[] all = new String[many];
        for (int i = 0; i < many; i++) all[i] = text;
        return all;
    }

    static long digestOf(long... numbers) {
        long h = 557;
        for (long n : numbers) h = 31 * h + n;
        return h;
    }

    static void finish() {
        System.out.println(asked + " answers, " + wrong + " wrong");
        if (wrong != 0) System.exit(1);
    }
}
