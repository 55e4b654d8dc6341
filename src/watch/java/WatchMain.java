import java.util.Arrays;

/**
 * Runs the main method of a test over watched classes. It fails if the test does, if an operation
 * answered NaN, if calls stood too deep, if too much was made, or if nothing was watched.
 * Arguments: the class of the test, its arguments.
 */
public final class WatchMain {
    public static void main(String[] args) throws Exception {
        // Tests end by System.exit: what was watched is told behind that.
        Runtime.getRuntime().addShutdownHook(new Thread(() -> {
            System.out.println(Watch.told());
            System.out.flush();
            if (!Watch.isGood()) {
                Runtime.getRuntime().halt(1);
            }
        }));
        String[] rest = Arrays.copyOfRange(args, 1, args.length);
        Class.forName(args[0]).getMethod("main", String[].class).invoke(null, (Object) rest);
    }
}
