import java.io.IOException;
import java.nio.file.Files;
import java.nio.file.Path;
import java.util.ArrayList;
import java.util.List;

/**
 * What the tests of sentences share. Each test bears the sentence of the document that it holds; the
 * sentence is looked up there, so that a test can't outlive what it stands for, and has one place
 * there, so that it is known what no test stands for (WholeDocumentTest).
 */
final class Edges {
    /** Makes a desk, always the same one. */
    interface Maker {
        MotionStepper make();
    }

    /** One call on a desk. */
    interface Call {
        long on(MotionStepper desk);
    }

    private static final Path DOCUMENT = Path.of("../shared/DOC.md");

    private static String document;
    private static String sentence = "";
    private static int sentences;
    private static int checks;
    private static int wrong;
    /** Where sentences are gathered instead of tested; null at a test. */
    private static List<String> gathered;

    private Edges() {
    }

    /** Runs the test of a sentence; one that checks nothing is wrong itself. */
    static void sentence(String words, Runnable test) {
        if (gathered != null) {
            gathered.add(words);
            return;
        }
        sentence = words;
        sentences++;
        int places = places(words);
        if (places != 1) {
            fault("the document says that " + places + " times");
        }
        int before = checks;
        test.run();
        if (checks == before) {
            fault("nothing was checked");
        }
    }

    /** The sentences that a test bears, without running it. */
    static List<String> sentencesOf(Runnable main) {
        gathered = new ArrayList<>();
        main.run();
        List<String> found = gathered;
        gathered = null;
        return found;
    }

    /** The document, its words with one space between them. */
    static String document() {
        if (document == null) {
            try {
                document = Files.readString(DOCUMENT).replaceAll("\\s+", " ");
            } catch (IOException e) {
                throw new IllegalStateException("no document at " + DOCUMENT, e);
            }
        }
        return document;
    }

    /** In how many places the document has these words. */
    static int places(String words) {
        int found = 0;
        for (int at = document().indexOf(words); at >= 0; at = document().indexOf(words, at + 1)) {
            found++;
        }
        return found;
    }

    private static void fault(String text) {
        wrong++;
        System.out.println("\"" + sentence + "\": " + text);
    }

    static void due(String what, long got, long want) {
        checks++;
        if (got != want) {
            fault(what + " answered " + got + ", due is " + want);
        }
    }

    static void dueNumber(String what, long got, double want) {
        checks++;
        if (got != Double.doubleToLongBits(want)) {
            fault(what + " answered " + Double.longBitsToDouble(got) + ", due is " + want);
        }
    }

    static void dueTrue(String what, boolean holds) {
        due(what, holds ? 1 : 0, 1);
    }

    /** The call answers so, and a desk where it was made tells and does what one without it does. */
    static void dueUnchanged(String what, Maker maker, Call call, long answer) {
        MotionStepper desk = maker.make();
        due(what, call.on(desk), answer);
        List<String> without = Picture.of(maker.make());
        List<String> with = Picture.of(desk);
        checks++;
        for (int i = 0; i < without.size(); i++) {
            if (i >= with.size() || !with.get(i).equals(without.get(i))) {
                fault(what + " changed " + without.get(i));
                return;
            }
        }
    }

    /** Tells what was checked, and ends the test. */
    static void end() {
        if (gathered != null) {
            return;
        }
        System.out.println(sentences + " sentences, " + checks + " checks, " + wrong + " wrong");
        System.exit(wrong == 0 ? 0 : 1);
    }
}
