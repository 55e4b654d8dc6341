import java.io.IOException;
import java.nio.file.Files;
import java.nio.file.Path;
import java.util.List;

/**
 * What the tests of edges share. Each test bears the sentence of the document that it holds; the
 * sentence is looked up there, so that a test can't outlive what it stands for.
 */
final class Edges {
    /** Makes a desk, always the same one. */
    interface Maker {
        MotionStepper make();
    }

    /** One call on a desk. */
    interface Call {
        long on(MotionStepper desk);
    }

    private static final Path DOCUMENT = Path.of("../shared/DOC.md");

    private static String document;
    private static String sentence = "";
    private static int sentences;
    private static int checks;
    private static int wrong;

    private Edges() {
    }

    /** Runs the test of a sentence; one that checks nothing is wrong itself. */
    static void sentence(String words, Runnable test) {
        sentence = words;
        sentences++;
        if (!inDocument(words)) {
            fault("the document does not say that");
        }
        int before = checks;
        test.run();
        if (checks == before) {
            fault("nothing was checked");
        }
    }

    private static boolean inDocument(String words) {
        if (document == null) {
            try {
                document = Files.readString(DOCUMENT).replaceAll("\\s+", " ");
            } catch (IOException e) {
                throw new IllegalStateException("no document at " + DOCUMENT, e);
            }
        }
        return document.contains(words);
    }

    private static void fault(String text) {
        wrong++;
        System.out.println("\"" + sentence + "\": " + text);
    }

    static void due(String what, long got, long want) {
        checks++;
        if (got != want) {
            fault(what + " answered " + got + ", due is " + want);
        }
    }

    static void dueNumber(String what, long got, double want) {
        checks++;
        if (got != Double.doubleToLongBits(want)) {
            fault(what + " answered " + Double.longBitsToDouble(got) + ", due is " + want);
        }
    }

    static void dueTrue(String what, boolean holds) {
        due(what, holds ? 1 : 0, 1);
    }

    /** The call answers so, and a desk where it was made tells and does what one without it does. */
    static void dueUnchanged(String what, Maker maker, Call call, long answer) {
        MotionStepper desk = maker.make();
        due(what, call.on(desk), answer);
        List<String> without = Picture.of(maker.make());
        List<String> with = Picture.of(desk);
        checks++;
        for (int i = 0; i < without.size(); i++) {
            if (i >= with.size() || !with.get(i).equals(without.get(i))) {
                fault(what + " changed " + without.get(i));
                return;
            }
        }
    }

    /** Tells what was checked, and ends the test. */
    static void end() {
        System.out.println(sentences + " sentences, " + checks + " checks, " + wrong + " wrong");
        System.exit(wrong == 0 ? 0 : 1);
    }
}
