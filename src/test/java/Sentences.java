import java.io.IOException;
import java.nio.file.Files;
import java.nio.file.Path;
import java.util.Arrays;
import java.util.TreeSet;
import java.util.stream.IntStream;

/**
 * A table of tests, each of one sentence of the document, and the helpers that they share.
 * A wrong answer is printed with the promise and the sentence that it breaks.
 */
class Sentences {
    static final int LEAST_INT = Integer.MIN_VALUE;
    static final int GREATEST_INT = Integer.MAX_VALUE;

    private static final Path DOCUMENT = Path.of("..", "shared", "DOC.md");

    private static int promise = 0;
    private static String sentence = "";
    private static int answers = 0;
    private static int wrong = 0;

    private final TreeSet<Integer> promises = new TreeSet<>();
    private final String document = document();
    private int tests = 0;

    /** Runs the test of a sentence, which the document must have in these very words. */
    void test(int ofPromise, String words, Runnable run) {
        promise = ofPromise;
        sentence = words;
        tests++;
        promises.add(ofPromise);
        if (document != null && !document.contains(plain(words))) {
            complain("the document has no such sentence");
        }
        int before = answers;
        run.run();
        if (answers == before) {
            complain("nothing was tested");
        }
    }

    /** Ends the run of a table that is to have a test for each of these promises. */
    void end(int first, int last) {
        for (int i = first; i <= last; i++) {
            if (!promises.contains(i)) {
                wrong++;
                System.out.println("promise " + i + " has no test here");
            }
        }
        if (document == null) {
            System.out.println("the sentences were not looked for: there is no " + DOCUMENT);
        }
        System.out.println(tests + " sentences, " + answers + " answers, " + wrong + " not as due");
        if (wrong != 0) {
            System.exit(1);
        }
    }

    private static String document() {
        if (!Files.isReadable(DOCUMENT)) {
            return null;
        }
        try {
            return plain(Files.readString(DOCUMENT));
        } catch (IOException e) {
            return null;
        }
    }

    private static String plain(String text) {
        return text.replaceAll("\\s+", " ");
    }

    private static void complain(String what) {
        wrong++;
        System.out.println("promise " + promise + ", \"" + sentence + "\": " + what);
    }

    static void due(String call, int got, int want) {
        answers++;
        if (got != want) {
            complain(call + " answered " + got + ", due is " + want);
        }
    }

    static void feedAll(WithTheSameOne x, String text) {
        for (int i = 0; i < text.length(); i++) {
            x.feed(text.charAt(i));
        }
    }

    static int tell(WithTheSameOne x, String text) {
        feedAll(x, text);
        return x.ball();
    }

    /** What a new object answers to this ball. */
    static int told(String text) {
        return tell(new WithTheSameOne(), text);
    }

    /** An object with these balls, none of which may have a fault. */
    static WithTheSameOne with(String... balls) {
        WithTheSameOne x = new WithTheSameOne();
        for (String ball : balls) {
            if (tell(x, ball) < 1) {
                complain("the test's own ball has a fault: " + ball);
            }
        }
        return x;
    }

    /** So many plain dancers, and these pairs, each as two digits. */
    static WithTheSameOne plainOnes(int dancers, int... pairs) {
        WithTheSameOne x = with("d00;".repeat(dancers));
        dancedAlready(x, pairs);
        return x;
    }

    static void dancedAlready(WithTheSameOne x, int... pairs) {
        StringBuilder ball = new StringBuilder();
        for (int i = 0; i < pairs.length; i++) {
            ball.append('p').append(pairs[i] / 10).append(pairs[i] % 10).append(';');
            if (ball.length() == 64 || i == pairs.length - 1) {
                if (tell(x, ball.toString()) < 1) {
                    complain("the test's own ball has a fault: " + ball);
                }
                ball.setLength(0);
            }
        }
    }

    /** Eight plain ones of whom all pairs have danced, but these. */
    static WithTheSameOne allBut(int... open) {
        return plainOnes(8, Arrays.stream(allPairs()).filter(pair -> !has(open, pair)).toArray());
    }

    private static boolean has(int[] pairs, int pair) {
        return Arrays.stream(pairs).anyMatch(known -> known == pair);
    }

    /** The 28 pairs of eight, rising. */
    static int[] allPairs() {
        return IntStream.range(0, 78).filter(pair -> pair / 10 < pair % 10 && pair % 10 < 8).toArray();
    }

    /** A call of two dancers that are no two answers -1; it answers otherwise, if they are. */
    static void onlyOfTwo(String name, OfTwo call) {
        WithTheSameOne none = new WithTheSameOne();
        due(name + "(0, 1) on a new object", call.answer(none, 0, 1), -1);
        WithTheSameOne eight = with("d30;".repeat(8));
        int[][] noTwo = {{0, 0}, {7, 7}, {7, 8}, {8, 7}, {0, -1}, {-1, 0}, {8, 8}, {-1, -1}, {0, LEAST_INT},
            {LEAST_INT, 0}, {0, GREATEST_INT}, {GREATEST_INT, 0}, {0, 32}, {32, 0}};
        for (int[] two : noTwo) {
            due(name + "(" + two[0] + ", " + two[1] + ") of eight", call.answer(eight, two[0], two[1]), -1);
        }
        due("count(11)", eight.count(11), noTwo.length);
        for (int[] two : new int[][] {{0, 1}, {1, 0}, {0, 7}, {7, 0}, {6, 7}, {7, 6}}) {
            call.answer(eight, two[0], two[1]);
            due("count(11) behind " + name + "(" + two[0] + ", " + two[1] + ")", eight.count(11), noTwo.length);
        }
        WithTheSameOne two = with("d30;d30;");
        due(name + "(1, 2) of two", call.answer(two, 1, 2), -1);
        due(name + "(2, 1) of two", call.answer(two, 2, 1), -1);
        due(name + "(1, 1) of two", call.answer(two, 1, 1), -1);
        call.answer(two, 1, 0);
        due("count(11) behind " + name + "(1, 0) of two", two.count(11), 3);
    }

    /** A call of an object with two dancers. */
    interface OfTwo {
        int answer(WithTheSameOne x, int one, int other);
    }

    static WithTheSameOne byTheLaw(int law, WithTheSameOne x) {
        x.law(law);
        return x;
    }

    static WithTheSameOne withRow(WithTheSameOne x, int... pairs) {
        x.clear();
        for (int pair : pairs) {
            x.row(pair);
        }
        return x;
    }

    /** How many refusals of all numbers there were. */
    static int refused(WithTheSameOne x) {
        int all = 0;
        for (int what = 11; what <= 16; what++) {
            all += x.count(what);
        }
        return all;
    }
}
