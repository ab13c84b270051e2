import java.nio.file.Files;
import java.nio.file.Path;
import java.util.Arrays;

/** Tests of single sentences: each is named by the words of the document that it holds to. */
abstract class Sentences {
    static final int BAD = -1, STATE = -2, FULL = -3, NONE = -9, NO = -1000000;
    static final int LEAST = Integer.MIN_VALUE, MOST = Integer.MAX_VALUE;
    static final String LETTERS = "abcdefghijklmnopqrstuvwxyz";
    static final String MARKS = ".,-'";
    private static final Path DOCUMENT = Path.of("../shared/DOC.md");
    private static final String DOCUMENT_TEXT = inOneLine(DOCUMENT);
    private static String sentence = "";
    private static int tests = 0;
    private static int wrong = 0;

    private static String inOneLine(Path path) {
        if (!Files.isReadable(path)) {
            System.out.println(path + " can't be read: what the sentences say is not held against it");
            return "";
        }
        try {
            return Files.readString(path).replace("`", "").replaceAll("\\s+", " ");
        } catch (java.io.IOException e) {
            throw new java.io.UncheckedIOException(e);
        }
    }

    /** The words must stand in the document: a test of what is no longer told is none. */
    static void test(String words, Runnable test) {
        tests++;
        sentence = words;
        if (!DOCUMENT_TEXT.isEmpty() && !DOCUMENT_TEXT.contains(words)) fail("no such words in " + DOCUMENT);
        test.run();
    }

    private static void fail(String what) {
        wrong++;
        System.out.println("\"" + sentence + "\": " + what);
    }

    static void due(String call, int got, int want) {
        if (got != want) fail(call + " answered " + got + ", due is " + want);
    }

    static void due(String calls, int[] got, int... want) {
        if (!Arrays.equals(got, want)) {
            fail(calls + " answered " + Arrays.toString(got) + ", due is " + Arrays.toString(want));
        }
    }

    static void end() {
        System.out.println(tests + " sentences, " + wrong + " answers are not as due");
        if (wrong != 0) System.exit(1);
    }
}
