import java.util.ArrayList;
import java.util.List;

/** Nothing that the document says is without a test that bears its words. */
public final class WholeDocumentTest {
    /**
     * What says nothing that could be tested: headings, marks and numbers of terms (with the words behind
     * them, which tests bear), and what is not promised.
     */
    private static final String[] WITHOUT_TEST = {
        "# MotionStepper ## What it is",
        "## The public face ```java",
        "## Terms 1. NUMBERS are doubles",
        "2. LAWS are numbered",
        "```text The value of a NODE",
        "``` 3. RUNS are numbered",
        "```text 0 PLAIN",
        "``` 4. EVENTS of a RUN",
        "```text Those that COME",
        "## Not promised How the state is held inside the object is free, as are the speed of each call, "
            + "the text of toString and the behaviour of equals and hashCode. Use of one object from several "
            + "threads at once is not promised to be safe. Nothing is promised beyond the answers and state "
            + "changes described above, and nothing about an object after its 512th call."};

    private static int wrong;

    public static void main(String[] args) {
        String document = Edges.document();
        boolean[] covered = new boolean[document.length()];
        List<String> sentences = sentences();
        for (String words : sentences) {
            cover(covered, words);
        }
        for (String words : WITHOUT_TEST) {
            cover(covered, words);
        }
        int start = -1;
        for (int i = 0; i <= document.length(); i++) {
            boolean open = i < document.length() && !covered[i];
            if (open && start < 0) {
                start = i;
            } else if (!open && start >= 0) {
                tellUncovered(document.substring(start, i));
                start = -1;
            }
        }
        System.out.println(sentences.size() + " sentences of tests over the document, " + wrong + " wrong");
        System.exit(wrong == 0 ? 0 : 1);
    }

    private static List<String> sentences() {
        String[] none = new String[0];
        List<String> all = new ArrayList<>();
        all.addAll(Edges.sentencesOf(() -> FaceTest.main(none)));
        all.addAll(Edges.sentencesOf(() -> WholeDeskTest.main(none)));
        all.addAll(Edges.sentencesOf(() -> RefusalsTest.main(none)));
        all.addAll(Edges.sentencesOf(() -> EdgesOfNumbersTest.main(none)));
        all.addAll(Edges.sentencesOf(() -> EdgesOfLawsTest.main(none)));
        all.addAll(Edges.sentencesOf(() -> EdgesOfRunsTest.main(none)));
        all.addAll(Edges.sentencesOf(() -> EdgesOfStepsTest.main(none)));
        all.addAll(Edges.sentencesOf(() -> EdgesOfToTest.main(none)));
        all.addAll(Edges.sentencesOf(() -> EdgesOfEventsTest.main(none)));
        all.addAll(Edges.sentencesOf(() -> EdgesOfKeptTest.main(none)));
        return all;
    }

    private static void cover(boolean[] covered, String words) {
        if (Edges.places(words) != 1) {
            wrong++;
            System.out.println("the document does not say once: " + words);
            return;
        }
        int start = Edges.document().indexOf(words);
        for (int i = start; i < start + words.length(); i++) {
            covered[i] = true;
        }
    }

    /** Stops and marks alone say nothing. */
    private static void tellUncovered(String words) {
        for (int i = 0; i < words.length(); i++) {
            if (Character.isLetterOrDigit(words.charAt(i))) {
                wrong++;
                System.out.println("no test bears: " + words.trim());
                return;
            }
        }
    }
}
