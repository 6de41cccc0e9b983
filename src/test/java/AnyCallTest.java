// Rule 7 of LANGUAGE.md: "No call may ever throw or fail to end, for any arguments in any state." So
// this test uses objects far beyond their 512 calls, where answers are free and no longer looked at.
public final class AnyCallTest {
    private static final int OBJECTS = 60;
    private static final int CALLS = 20_000;

    private static int argument() {
        return Calls.pick(8) == 0 ? Calls.pickFar() : Calls.pickBetween(-1, Calls.pick(2) == 0 ? 6 : 21);
    }

    private static boolean ends(TokenSuite suite, int method, int a, int b) {
        try {
            Calls.call(suite, method, a, b);
            return true;
        } catch (RuntimeException | StackOverflowError thrown) {
            System.out.println(Calls.NAMES[method] + " (of " + a + ", " + b + ") threw " + thrown);
            return false;
        }
    }

    private static boolean allEnd() {
        TokenSuite suite = new TokenSuite();
        for (int call = 0; call < CALLS; call++) {
            int method = Calls.pick(Calls.NAMES.length);
            // What adds comes more often than what takes away, so that objects fill up.
            if (Calls.pick(3) == 0) {
                method = new int[] {0, 1, 1, 1, 3, 3, 12, 12}[Calls.pick(8)];
            }
            int a = argument();
            int b = argument();
            if (!ends(suite, method, a, b)) {
                return false;
            }
        }
        return true;
    }

    public static void main(String[] args) {
        boolean held = true;
        for (int object = 0; object < OBJECTS; object++) {
            held &= allEnd();
        }
        if (!held) {
            System.exit(1);
        }
        System.out.println("no call threw");
    }
}
