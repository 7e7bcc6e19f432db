/** What the tests share: counting the answers that are due, and the ways to set up an object in one line. */
final class Due {
    private static int right = 0;
    private static int wrong = 0;

    private Due() { }

    static void is(String call, long got, long want) {
        if (got == want) {
            right++;
        } else {
            wrong++;
            System.out.println(call + " answered " + got + ", due is " + want);
        }
    }

    static void end(String test) {
        System.out.println(test + ": " + right + " answers as due, " + wrong + " not");
        if (wrong != 0 || right == 0) {
            System.exit(1);
        }
    }

    /** An object with walkers of these kinds, each of TIME 1, that come in minute 0. */
    static OddBridge ofKinds(int... kinds) {
        OddBridge x = new OddBridge();
        for (int kind : kinds) {
            x.walker(kind, 1, 0);
        }
        return x;
    }

    /** An object with plain walkers of these times, who come in minute 0. */
    static OddBridge ofTimes(int... times) {
        OddBridge x = new OddBridge();
        for (int time : times) {
            x.walker(0, time, 0);
        }
        return x;
    }

    static OddBridge vow(OddBridge x, String text) {
        x.erase();
        for (int i = 0; i < text.length(); i++) {
            x.write(text.charAt(i));
        }
        return x;
    }

    /** The call was refused and changed nothing but the one STATUS that counts it. */
    static void refused(OddBridge x, String call, java.util.function.LongSupplier made, long answer, int status) {
        long digest = x.digest();
        int[] before = {x.status(0), x.status(1), x.status(2)};
        is(call, made.getAsLong(), answer);
        for (int i = 0; i < 3; i++) {
            is("status(" + i + ") behind " + call, x.status(i), before[i] + (i == status ? 1 : 0));
        }
        is("digest() behind " + call, x.digest(), digest);
    }

    static void bad(OddBridge x, String call, java.util.function.LongSupplier made) {
        refused(x, call, made, OddBridge.BAD, 0);
    }

    static void no(OddBridge x, String call, java.util.function.LongSupplier made) {
        refused(x, call, made, OddBridge.NO, 1);
    }

    static void full(OddBridge x, String call, java.util.function.LongSupplier made) {
        refused(x, call, made, OddBridge.FULL, 2);
    }
}
