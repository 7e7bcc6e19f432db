/**
 * Each number that each call is given: the smallest and the largest that is as told, and the next outside; each
 * refusal, what it answers, which STATUS counts it, that nothing else changes, and which comes first of two.
 */
public final class RefusalsTest {
    private RefusalsTest() { }

    public static void main(String[] args) {
        walkersAndVows();
        setsOfSoManyWalkers();
        numbersOfSoManyWalkers();
        theFeast();
        companies();
        disputes();
        whatThereIs();
        fullOnes();
        noneThere();
        firstOfTwo();
        severalWrongCountOnce();
        notRefused();
        eachIsCounted();
        Due.end("RefusalsTest");
    }

    private static void walkersAndVows() {
        for (Edge.Setup setup : new Edge.Setup[] {OddBridge::new, Edge::some}) {
            Edge.range("2: walker(., 1, 0)", setup, (x, v) -> x.walker(v, 1, 0), 0, 7);
            Edge.range("2: walker(0, ., 0)", setup, (x, v) -> x.walker(0, v, 0), 1, 20);
            Edge.range("2: walker(0, 1, .)", setup, (x, v) -> x.walker(0, 1, v), 0, 99);
            Edge.range("3: put(., 5)", setup, (x, v) -> x.put(v, 5), 0, 1);
            Edge.range("3: put(0, .)", setup, (x, v) -> x.put(0, v), 0, 19);
            Edge.range("3: put(1, .)", setup, (x, v) -> x.put(1, v), 0, 99);
            Edge.range("4: write(.)", setup, (x, v) -> x.write(v), 0, 127);
            Edge.range("7: brings(0, .)", setup, (x, v) -> x.brings(0, v), 0, 4);
            Edge.range("8: well(0, .)", setup, (x, v) -> x.well(0, v), 0, 199);
        }
        Edge.bad("3: put(0, 99), fine as PRICE alone", Edge::some, x -> x.put(0, 99));
        Edge.bad("3: put(2, 5)", Edge::full, x -> x.put(2, 5));
        Edge.range("3: put(0, .) of a full one", Edge::full, (x, v) -> x.put(0, v), 0, 19);
        Edge.range("7: brings(255, .)", Edge::full, (x, v) -> x.brings(255, v), 0, 4);
        Edge.range("8: well(255, .)", Edge::full, (x, v) -> x.well(255, v), 0, 199);
    }

    private static OddBridge many(int walkers) {
        OddBridge x = new OddBridge();
        for (int i = 0; i < walkers; i++) {
            x.walker(i, 1, 0);
        }
        return x;
    }

    /** A set is as told from the empty one to that of all; with no WALKERS the empty one alone. */
    private static void setsOfSoManyWalkers() {
        for (int i = 0; i <= 8; i++) {
            int walkers = i;
            int all = (1 << walkers) - 1;
            String of = " of " + walkers;
            Edge.range("7: brings(., 0)" + of, () -> many(walkers), (x, v) -> x.brings(v, 0), 0, all);
            Edge.range("8: well(., 0)" + of, () -> many(walkers), (x, v) -> x.well(v, 0), 0, all);
            Edge.range("16: odd(.)" + of, () -> many(walkers), (x, v) -> x.odd(v), 0, all);
        }
    }

    private static void numbersOfSoManyWalkers() {
        for (int i = 1; i <= 8; i++) {
            int walkers = i;
            String of = " of " + walkers;
            Edge.range("10: stepped(., 0)" + of, () -> many(walkers), (x, v) -> x.stepped(v, 0), 0, walkers - 1);
            Edge.range("10: stepped(., 1)" + of, () -> many(walkers), (x, v) -> x.stepped(v, 1), 0, walkers - 1);
            Edge.range("15: doubt(., 5)" + of, () -> many(walkers), (x, v) -> x.doubt(v, 5), 0, walkers - 1);
            Edge.range("18: say(., 0, 0)" + of, () -> many(walkers), (x, v) -> x.say(v, 0, 0), 0, walkers - 1);
        }
        for (int i = -1; i <= 1; i++) {
            int walker = i;
            Edge.bad("10: stepped(" + walker + ", 0) of none", OddBridge::new, x -> x.stepped(walker, 0));
            Edge.bad("10: stepped(" + walker + ", 1) of none", OddBridge::new, x -> x.stepped(walker, 1));
            Edge.bad("15: doubt(" + walker + ", 5) of none", OddBridge::new, x -> x.doubt(walker, 5));
            Edge.bad("18: say(" + walker + ", 0, 0) of none", OddBridge::new, x -> x.say(walker, 0, 0));
        }
    }

    private static void theFeast() {
        for (Edge.Setup setup : new Edge.Setup[] {OddBridge::new, Edge::some, Edge::full}) {
            Edge.range("9: on(.)", setup, (x, v) -> x.on(v), 0, 199);
            Edge.range("11: faulty(.)", setup, (x, v) -> x.faulty(v), 0, 1);
        }
        Edge.range("10: stepped(0, .)", Edge::some, (x, v) -> x.stepped(0, v), 0, 1);
        Edge.range("10: stepped(7, .)", Edge::full, (x, v) -> x.stepped(7, v), 0, 1);
    }

    private static void companies() {
        for (Edge.Setup setup : new Edge.Setup[] {OddBridge::new, Edge::some, Edge::full}) {
            Edge.range("12: least(.)", setup, (x, v) -> x.least(v), 0, 3);
            for (int i : new int[] {0, 7, 8, 255, 256, Integer.MAX_VALUE}) {
                Edge.taken("13: row(" + i + ")", setup, x -> x.row(i));
            }
            for (int i : new int[] {-1, -2, Integer.MIN_VALUE}) {
                Edge.refused("13: row(" + i + ")", setup, x -> x.row(i), -10, 0);
            }
            Edge.range("14: toll(., 0)", setup, (x, v) -> x.toll(v, 0), 0, 20);
            Edge.range("14: toll(0, .)", setup, (x, v) -> x.toll(0, v), 0, 8);
            Edge.range("17: home(., 20, 0)", setup, (x, v) -> x.home(v, 20, 0), 1, 40);
            Edge.range("17: home(40, ., 0)", setup, (x, v) -> x.home(40, v, 0), 1, 20);
            Edge.range("17: home(., 20, 1)", setup, (x, v) -> x.home(v, 20, 1), 1, 40);
            Edge.range("17: home(40, ., 1)", setup, (x, v) -> x.home(40, v, 1), 1, 20);
            Edge.range("17: home(1, 1, .)", setup, (x, v) -> x.home(1, 1, v), 0, 1);
        }
        Edge.range("15: doubt(2, .)", Edge::some, (x, v) -> x.doubt(2, v), 0, 10);
        Edge.range("15: doubt(7, .)", Edge::full, (x, v) -> x.doubt(7, v), 0, 10);
    }

    private static void disputes() {
        Edge.range("18: say(0, ., 62)", Edge::some, (x, v) -> x.say(0, v, 62), 0, 62);
        Edge.range("18: say(0, 0, .)", Edge::some, (x, v) -> x.say(0, 0, v), 0, 62);
        Edge.range("18: say(0, ., 30), a no more than b", Edge::some, (x, v) -> x.say(0, v, 30), 0, 30);
        Edge.range("18: say(0, 30, .), a no more than b", Edge::some, (x, v) -> x.say(0, 30, v), 30, 62);
        Edge.bad("18: say(0, 63, 63)", Edge::some, x -> x.say(0, 63, 63));
        Edge.bad("18: say(0, -1, -1)", Edge::some, x -> x.say(0, -1, -1));
        Edge.bad("18: say(0, MIN, MAX)", Edge::some, x -> x.say(0, Integer.MIN_VALUE, Integer.MAX_VALUE));
        Edge.range("21: lied(.) where nothing was said", OddBridge::new, (x, v) -> x.lied(v), 0, 1);
        Edge.range("21: lied(.)", Edge::full, (x, v) -> x.lied(v), 0, 1);
        for (int i = 0; i <= 8; i++) {
            int said = i;
            Edge.range("20: dispute(.) of " + said, () -> saying(said), (x, v) -> x.dispute(v), 0, (1 << said) - 1);
        }
        Edge.bad("20: dispute(2), but one of two that were SAID is hushed", () -> hushedThenOne(), x -> x.dispute(2));
    }

    private static OddBridge saying(int said) {
        OddBridge x = many(2);
        for (int i = 0; i < said; i++) {
            x.say(i % 2, i, 40 + i);
        }
        return x;
    }

    private static OddBridge hushedThenOne() {
        OddBridge x = saying(2);
        x.hush();
        x.say(0, 0, 0);
        return x;
    }

    private static void whatThereIs() {
        for (Edge.Setup setup : new Edge.Setup[] {OddBridge::new, Edge::some, Edge::full}) {
            Edge.range("22: part(.)", setup, (x, v) -> x.part(v), 0, 1);
            Edge.range("23: image(.)", setup, (x, v) -> x.image(v), 0, 1);
            Edge.range("26: count(.)", setup, (x, v) -> x.count(v), 0, 2);
            for (int what : new int[] {-1, 3, Integer.MIN_VALUE, Integer.MAX_VALUE}) {
                Edge.refused("25: status(" + what + ")", setup, x -> x.status(what), -1, 0);
            }
            for (int what = 0; what < 3; what++) {
                int told = what;
                Edge.taken("25: status(" + what + ")", setup, x -> x.status(told) * 0);
            }
        }
        Edge.range("24: from(.)", Edge::full, (x, v) -> x.from(v), 0, 1);
    }

    private static void fullOnes() {
        Due.is("a full one has 8 WALKERS", Edge.full().count(0), 8);
        Due.is("a full one has 40 characters", Edge.full().count(1), 40);
        Due.is("a full one has 8 SAID", Edge.full().count(2), 8);
        Edge.full("2: the ninth WALKER", Edge::full, x -> x.walker(0, 1, 0));
        Edge.full("2: the ninth WALKER, all at its most", Edge::full, x -> x.walker(7, 20, 99));
        Edge.full("2: the ninth WALKER of none who goes", () -> many(8), x -> x.walker(0, 1, 0));
        Edge.full("4: the 41st character", Edge::full, x -> x.write('p'));
        Edge.full("4: the 41st character, the least", Edge::full, x -> x.write(0));
        Edge.full("4: the 41st character, the most", Edge::full, x -> x.write(127));
        Edge.full("4: the 41st character, a blank", Edge::full, x -> x.write(' '));
        Edge.full("18: the ninth SAID", Edge::full, x -> x.say(0, 0, 0));
        Edge.full("18: the ninth SAID, by the last one", Edge::full, x -> x.say(7, 62, 62));
        Edge.full("18: the ninth SAID of two", () -> saying(8), x -> x.say(0, 0, 62));
    }

    private static void noneThere() {
        Edge.no("24: from(0), none was kept", OddBridge::new, x -> x.from(0));
        Edge.no("24: from(1), none was kept", OddBridge::new, x -> x.from(1));
        Edge.no("24: from(1), 0 alone was kept", Edge::some, x -> x.from(1));
        Edge.no("24: from(0), 1 alone was kept", RefusalsTest::keptAsOne, x -> x.from(0));
        Edge.no("14: toll(0, 8), no ROW", RefusalsTest::never, x -> x.toll(0, 8));
        Edge.no("14: toll(20, 0), no ROW", RefusalsTest::never, x -> x.toll(20, 0));
    }

    private static OddBridge keptAsOne() {
        OddBridge x = many(3);
        x.image(1);
        return x;
    }

    private static OddBridge never() {
        OddBridge x = Due.vow(Due.ofTimes(2, 3), "2*p");
        x.odd(1);
        x.doubt(0, 3);
        x.odd(1);
        return x;
    }

    private static void firstOfTwo() {
        Edge.bad("2: walker(8, 1, 0) of a full one", Edge::full, x -> x.walker(8, 1, 0));
        Edge.bad("2: walker(0, 0, 0) of a full one", Edge::full, x -> x.walker(0, 0, 0));
        Edge.bad("2: walker(0, 21, 0) of a full one", Edge::full, x -> x.walker(0, 21, 0));
        Edge.bad("2: walker(0, 1, -1) of a full one", Edge::full, x -> x.walker(0, 1, -1));
        Edge.bad("2: walker(0, 1, 100) of a full one", Edge::full, x -> x.walker(0, 1, 100));
        Edge.bad("4: write(128) of a full one", Edge::full, x -> x.write(128));
        Edge.bad("4: write(-1) of a full one", Edge::full, x -> x.write(-1));
        Edge.bad("18: say(8, 0, 0) of a full one", Edge::full, x -> x.say(8, 0, 0));
        Edge.bad("18: say(-1, 0, 0) of a full one", Edge::full, x -> x.say(-1, 0, 0));
        Edge.bad("18: say(0, -1, 0) of a full one", Edge::full, x -> x.say(0, -1, 0));
        Edge.bad("18: say(0, 0, 63) of a full one", Edge::full, x -> x.say(0, 0, 63));
        Edge.bad("18: say(0, 5, 4) of a full one", Edge::full, x -> x.say(0, 5, 4));
        Edge.bad("14: toll(-1, 0) without a ROW", RefusalsTest::never, x -> x.toll(-1, 0));
        Edge.bad("14: toll(21, 0) without a ROW", RefusalsTest::never, x -> x.toll(21, 0));
        Edge.bad("14: toll(0, -1) without a ROW", RefusalsTest::never, x -> x.toll(0, -1));
        Edge.bad("14: toll(0, 9) without a ROW", RefusalsTest::never, x -> x.toll(0, 9));
        Edge.bad("24: from(-1), where none was kept", OddBridge::new, x -> x.from(-1));
        Edge.bad("24: from(2), where none was kept", OddBridge::new, x -> x.from(2));
    }

    private static void severalWrongCountOnce() {
        Edge.bad("2: walker(8, 21, 100)", Edge::some, x -> x.walker(8, 21, 100));
        Edge.bad("2: walker(-1, 0, -1)", Edge::full, x -> x.walker(-1, 0, -1));
        Edge.bad("3: put(2, 100)", Edge::some, x -> x.put(2, 100));
        Edge.bad("7: brings(8, 5)", Edge::some, x -> x.brings(8, 5));
        Edge.bad("8: well(8, 200)", Edge::some, x -> x.well(8, 200));
        Edge.bad("10: stepped(3, 2)", Edge::some, x -> x.stepped(3, 2));
        Edge.bad("14: toll(21, 9)", Edge::some, x -> x.toll(21, 9));
        Edge.bad("15: doubt(3, 11)", Edge::some, x -> x.doubt(3, 11));
        Edge.bad("17: home(0, 0, 2)", Edge::some, x -> x.home(0, 0, 2));
        Edge.bad("17: home(41, 21, -1)", Edge::some, x -> x.home(41, 21, -1));
        Edge.bad("18: say(3, 63, 62)", Edge::some, x -> x.say(3, 63, 62));
    }

    /** What is answered below 0 without a refusal is counted nowhere. */
    private static void notRefused() {
        Edge.onlyAsks("6: fault() of none", RefusalsTest::never, x -> x.fault(), -1);
        Edge.onlyAsks("10: stepped(0, 0)", RefusalsTest::never, x -> x.stepped(0, 0), -1);
        Edge.onlyAsks("10: stepped(1, 1)", RefusalsTest::never, x -> x.stepped(1, 1), -1);
        Edge.onlyAsks("11: faulty(1)", RefusalsTest::never, x -> x.faulty(1), -1);
        for (int i = 0; i < 4; i++) {
            int what = i;
            Edge.onlyAsks("12: least(" + what + ")", RefusalsTest::never, x -> x.least(what), -1);
        }
        Edge.onlyAsks("13: row(0), there is none", RefusalsTest::never, x -> x.row(0), -5);
        Edge.onlyAsks("13: row(0), there are no WALKERS", OddBridge::new, x -> x.row(0), -5);
        Edge.onlyAsks("13: row(8)", Edge::full, x -> x.row(8), -5);
        Edge.onlyAsks("13: row(MAX)", Edge::full, x -> x.row(Integer.MAX_VALUE), -5);
        Edge.onlyAsks("6: fault() of an empty VOW", OddBridge::new, x -> x.fault(), 1);
        Edge.onlyAsks("27: digest() of a full one", Edge::full, x -> x.digest() * 0, 0);
    }

    /** Five hundred refusals on one object: each is counted for itself, to the last. */
    private static void eachIsCounted() {
        OddBridge x = Due.vow(new OddBridge(), "0");
        for (int i = 0; i < 8; i++) {
            x.walker(0, 1, 0);
        }
        for (int i = 0; i < 100; i++) {
            Due.is("25: row(-1) again", x.row(-1), -10);
            Due.is("25: status(3) again", x.status(3), -1);
            Due.is("25: walker again", x.walker(0, 1, 0), -4);
            Due.is("25: toll again", x.toll(1, 1), -3);
        }
        Due.is("25: status(0)", x.status(0), 200);
        Due.is("25: status(1)", x.status(1), 100);
        Due.is("25: status(2)", x.status(2), 100);
        Due.is("25: status(0) is not counted", x.status(0), 200);
    }
}
