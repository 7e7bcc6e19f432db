/** Promises 9 to 11 at the edges of what the sentences of THE FEAST name. */
public final class FeastEdgesTest {
    private FeastEdgesTest() { }

    public static void main(String[] args) {
        timeOnTheBridge();
        orLonger();
        comes();
        hasBeenOn();
        allAndNobody();
        theMost();
        theLeastBits();
        theEmptySet();
        wallOfEachWidth();
        wallSidesForThemselves();
        wallIsPassed();
        wallPassedByTheLast();
        faultyMinutes();
        theLastMinutes();
        Due.end("FeastEdgesTest");
    }

    private static void on(String of, OddBridge x, int first, int... due) {
        for (int i = 0; i < due.length; i++) {
            Due.is("9: on(" + (first + i) + ") " + of, x.on(first + i), due[i]);
        }
    }

    private static void stepped(String of, OddBridge x, int walker, int on, int off) {
        Due.is("10: stepped(" + walker + ", 0) " + of, x.stepped(walker, 0), on);
        Due.is("10: stepped(" + walker + ", 1) " + of, x.stepped(walker, 1), off);
    }

    private static void faulty(String of, OddBridge x, int many, int first) {
        Due.is("11: faulty(0) " + of, x.faulty(0), many);
        Due.is("11: faulty(1) " + of, x.faulty(1), first);
    }

    /** One steps off TIME minutes behind stepping on: not one less. */
    private static void timeOnTheBridge() {
        for (int time = 1; time <= 20; time++) {
            OddBridge x = Due.ofTimes(time);
            on("of TIME " + time, x, time - 1, 1, 0);
            stepped("of TIME " + time, x, 0, 0, time);
            faulty("of TIME " + time, x, 0, -1);
        }
    }

    /** By p=2 the quick one must wait for the slow one. */
    private static void orLonger() {
        OddBridge x = Due.vow(Due.ofTimes(1, 20), "p=2");
        on("of a quick and a slow one", x, 0, 3, 3);
        on("of a quick and a slow one", x, 19, 3, 0, 0);
        stepped("of the quick one", x, 0, 0, 20);
        faulty("of both", x, 0, -1);
    }

    private static void comes() {
        for (int comes : new int[] {0, 1, 50, 98, 99}) {
            OddBridge x = new OddBridge();
            x.walker(0, 3, comes);
            if (comes > 0) {
                on("of COMES " + comes, x, comes - 1, 0);
            }
            on("of COMES " + comes, x, comes, 1, 1, 1, 0);
            stepped("of COMES " + comes, x, 0, comes, comes + 3);
        }
        OddBridge late = new OddBridge();
        late.walker(0, 2, 5);
        Due.vow(late, "m>8");
        stepped("of one who came long ago", late, 0, 9, 11);
    }

    private static void hasBeenOn() {
        OddBridge x = Due.vow(Due.ofTimes(1), "1");
        on("of one, once", x, 0, 1, 0, 0, 0);
        on("of one, once", x, 199, 0);
        stepped("of one, once", x, 0, 0, 1);
        OddBridge two = Due.ofTimes(1, 1);
        on("of two, each once", two, 0, 1, 2, 0, 0);
        on("of two, each once", two, 199, 0);
    }

    private static void allAndNobody() {
        OddBridge x = Due.vow(Due.ofTimes(1, 1, 1, 1, 1, 1, 1, 1), "1");
        on("of all eight", x, 0, 255, 0, 0);
        Due.vow(x, "p=8");
        on("of all eight or none", x, 0, 255, 0, 0);
        Due.vow(x, "0");
        on("of nobody", x, 0, 0, 0);
        on("of nobody", x, 199, 0);
        for (int i = 0; i < 8; i++) {
            stepped("of nobody", x, i, -1, -1);
        }
        faulty("of nobody", x, 0, -1);
        Due.vow(x, "p=1");
        on("of one behind the other", x, 0, 1, 2, 4, 8, 16, 32, 64, 128, 0);
    }

    private static void theMost() {
        OddBridge x = Due.vow(Due.ofTimes(1, 1, 1, 1), "p=1|p=3");
        on("three ahead of one", x, 0, 7, 8, 0);
        OddBridge y = Due.vow(Due.ofTimes(9, 9, 9, 9), "p=1|p=3");
        on("three, then they wait", y, 0, 7, 7);
        OddBridge z = new OddBridge();
        z.walker(0, 1, 0);
        z.walker(0, 1, 1);
        z.walker(0, 1, 1);
        on("one off and two on would be even", Due.vow(z, "p"), 0, 1, 2, 4, 0);
        on("one off and two on", Due.vow(z, "p=1|p=2"), 0, 1, 6, 0);
    }

    /** On and off are of like worth: of like many it is the least bits alone. */
    private static void theLeastBits() {
        OddBridge x = new OddBridge();
        x.walker(0, 1, 1);
        x.walker(0, 1, 0);
        x.walker(0, 1, 1);
        Due.vow(x, "p=1");
        on("0 and 1, not 1 and 2", x, 0, 2, 1, 4, 0);
        OddBridge y = new OddBridge();
        y.walker(5, 5, 1);
        y.walker(0, 1, 0);
        on("PRIEST 0 on, not 1 off", y, 0, 2, 3, 3, 3, 3, 3, 0);
        stepped("1, who had to wait for the PRIEST", y, 1, 0, 6);
        OddBridge z = new OddBridge();
        z.walker(0, 1, 0);
        z.walker(5, 5, 1);
        on("0 off, not PRIEST 1 on", z, 0, 1, 0, 0);
        stepped("the PRIEST who stays behind", z, 1, -1, -1);
        OddBridge w = Due.vow(Due.ofTimes(9, 9, 9, 9, 9, 9, 9, 9), "p=3");
        on("the least three of eight", w, 8, 7, 56, 56);
        on("two off and two on are more than three off", w, 17, 56, 224, 224);
        on("the last three", w, 26, 224, 0);
    }

    /** It stands beside the others: where it alone does, nobody steps and the minute is not FAULTY. */
    private static void theEmptySet() {
        OddBridge x = Due.vow(Due.ofTimes(1, 20), "p=2");
        faulty("where nobody may step as he likes", x, 0, -1);
        OddBridge y = Due.vow(Due.ofTimes(2), "m=5");
        on("who waits for minute 5", y, 0, 0, 0, 0, 0, 0, 1, 1, 0);
        faulty("who is not WELL in minute 6", y, 1, 6);
    }

    /**
     * The second one steps on when the first has passed the wall: w minutes behind, not one less. As soon as the second
     * has passed it too, the two are even, until the first may step off in minute 20.
     */
    private static void wallOfEachWidth() {
        for (int w = 0; w <= 19; w++) {
            OddBridge x = Due.ofTimes(20, 20);
            Due.is("3: put(0, " + w + ")", x.put(0, w), 0);
            int second = w == 0 ? 20 : w;
            on("with a WALL at " + w, x, second - 1, 1, w == 0 ? 2 : 3);
            stepped("with a WALL at " + w, x, 1, second, second + 20);
            stepped("with a WALL at " + w, x, 0, 0, 20);
            boolean both = w > 0 && w < 10;
            faulty("with a WALL at " + w, x, both ? 20 - 2 * w : 0, both ? 2 * w : -1);
        }
    }

    private static OddBridge oneThenTwo() {
        OddBridge x = new OddBridge();
        x.walker(0, 20, 0);
        x.walker(0, 20, 1);
        x.walker(0, 20, 1);
        return x;
    }

    private static void wallSidesForThemselves() {
        OddBridge x = oneThenTwo();
        on("three together", x, 0, 1, 7);
        x.put(0, 1);
        on("two ahead of the WALL are even", x, 0, 1, 3, 3);
        faulty("two behind the WALL are even", x, 18, 2);
        Due.vow(x, "p=2");
        on("two, of whom none is alone", x, 0, 0, 3, 3);
        Due.vow(x, "p=1|p=2");
        on("one behind, two ahead of the WALL", x, 0, 1, 7);
        faulty("then three are behind", x, 18, 2);
        x.put(0, 0);
        on("three together are not WELL", x, 0, 1, 3, 3);
    }

    /** WALL 2: who stepped on now and a minute ago is ahead, who stepped on two minutes ago is not. */
    private static void wallIsPassed() {
        OddBridge x = new OddBridge();
        for (int comes = 0; comes < 4; comes++) {
            x.walker(0, 3, comes);
        }
        x.put(0, 2);
        on("one passes, one steps on", x, 0, 1, 1, 3, 14, 14, 14, 0);
        faulty("two are not yet past the WALL", x, 1, 4);
        x.put(0, 3);
        on("who passes steps off", x, 0, 1, 1, 7, 14);
    }

    /** The eighth WALKER is the only one who is looked at behind the WALL. */
    private static void wallPassedByTheLast() {
        OddBridge x = new OddBridge();
        for (int i = 0; i < 7; i++) {
            x.walker(0, 5, 3);
        }
        x.walker(0, 20, 0);
        on("all seven would be even with the eighth", x, 2, 128, 191, 191);
        x.put(0, 3);
        on("seven ahead of the WALL, one behind", x, 2, 128, 255, 255, 255);
        x.put(0, 4);
        on("eight ahead of the WALL, then seven and one", x, 2, 128, 191, 255);
    }

    private static void faultyMinutes() {
        OddBridge x = Due.vow(Due.ofTimes(1, 3), "m=0");
        on("who could step off stays", x, 0, 3, 3, 3, 0);
        faulty("who could step off stays", x, 2, 1);
        stepped("who could step off stays", x, 0, 0, 3);
        OddBridge eight = new OddBridge();
        for (int i = 0; i < 8; i++) {
            eight.walker(0, 20, 0);
        }
        Due.vow(eight, "m/20*20=m&p=1");
        faulty("as many as can be", eight, 152, 1);
        on("as many as can be", eight, 139, 64, 128);
        on("as many as can be", eight, 159, 128, 0);
        OddBridge early = Due.vow(Due.ofTimes(20), "m=0");
        faulty("from the first that can be", early, 19, 1);
        Due.vow(early, "m=0|m>1");
        faulty("one alone", early, 1, 1);
        Due.vow(early, "m=0|m>1&m<19");
        faulty("two apart", early, 2, 1);
        Due.vow(early, "1");
        faulty("none", early, 0, -1);
    }

    private static void theLastMinutes() {
        OddBridge x = Due.vow(Due.ofTimes(2), "m=198");
        on("in the last minutes", x, 197, 0, 1, 1);
        faulty("in the last minute alone", x, 1, 199);
        stepped("not off by 199", x, 0, 198, -1);
        OddBridge off = Due.vow(Due.ofTimes(1), "m=198");
        on("off in the last minute", off, 197, 0, 1, 0);
        stepped("off in the last minute", off, 0, 198, 199);
        faulty("off in the last minute", off, 0, -1);
        OddBridge never = Due.vow(Due.ofTimes(1), "m=200");
        stepped("not on by 199", never, 0, -1, -1);
        OddBridge last = Due.vow(Due.ofTimes(1), "m=199");
        stepped("on in the last minute", last, 0, 199, -1);
        OddBridge first = Due.vow(Due.ofTimes(20), "m=0|m=20");
        stepped("on in the first minute", first, 0, 0, 20);
        Due.vow(last, "m=0");
        on("whoever was on in the last minute, by another vow", last, 0, 1, 0, 0);
    }
}
