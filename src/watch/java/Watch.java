/** What the watched classes tell of themselves (WatchWriter). */
public final class Watch {
    /** LANGUAGE.md, rule 11. */
    private static final int DEEPEST = 8;
    /** Far below the room that all calls of one run have: a desk makes what it needs once. */
    private static final int MOST_OBJECTS = 1000;
    private static final int MOST_ELEMENTS = 10000;

    private static long operations;
    private static long nans;
    private static int depth;
    private static int deepest;
    private static int objects;
    private static int elements;
    private static int mostObjects;
    private static int mostElements;

    private Watch() {
    }

    /** Another MotionStepper is made: what it makes is counted anew. */
    public static void desk() {
        objects = 0;
        elements = 0;
    }

    public static void entered() {
        depth++;
        deepest = Math.max(deepest, depth);
    }

    public static void left() {
        depth--;
    }

    public static void answered(double a) {
        operations++;
        if (a != a) {
            nans++;
        }
    }

    public static void object() {
        objects++;
        mostObjects = Math.max(mostObjects, objects);
    }

    public static void array(int length) {
        object();
        elements += length;
        mostElements = Math.max(mostElements, elements);
    }

    static String told() {
        return "watched " + operations + " operations, NaN of them " + nans + "; deepest call "
                + deepest + "; one desk's objects " + mostObjects + ", elements " + mostElements;
    }

    static boolean isGood() {
        return operations > 0 && nans == 0 && deepest > 0 && deepest <= DEEPEST
                && mostObjects <= MOST_OBJECTS && mostElements <= MOST_ELEMENTS;
    }
}
