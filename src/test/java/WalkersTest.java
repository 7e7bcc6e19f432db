/** Promises 1, 2, 3, 7, 26: a new object, walkers, WALL and PRICE, what a set brings, how many there are. */
public final class WalkersTest {
    private WalkersTest() { }

    public static void main(String[] args) {
        newObject();
        walkers();
        wallAndPrice();
        broughtBySets();
        counts();
        Due.end("WalkersTest");
    }

    private static void newObject() {
        OddBridge x = new OddBridge();
        Due.is("1: count(0)", x.count(0), 0);
        Due.is("1: count(1)", x.count(1), 0);
        Due.is("1: count(2)", x.count(2), 0);
        Due.is("1: fault()", x.fault(), 1);
        Due.is("1: part(0)", x.part(0), 0);
        Due.is("1: part(1)", x.part(1), 1);
        for (int what = 0; what < 3; what++) {
            Due.is("1: status", x.status(what), 0);
        }
        for (int minute = 0; minute < 200; minute++) {
            Due.is("1: on(" + minute + ")", x.on(minute), 0);
        }
        Due.is("1: faulty(0)", x.faulty(0), 0);
        Due.is("1: least(0)", x.least(0), 0);
        Due.is("1: least(2)", x.least(2), 0);
        Due.is("1: row(0)", x.row(0), -5);
        Due.is("1: dispute(0)", x.dispute(0), 0);
        Due.is("1: put(0, 0)", x.put(0, 0), 0);
        Due.is("1: put(1, 3)", x.put(1, 3), 3);
        Due.no(x, "1: from(0)", () -> x.from(0));
        Due.no(x, "1: from(1)", () -> x.from(1));
        Due.is("1: digest()", x.digest(), digestOfNone());
        Due.is("the constants", OddBridge.NONE * 1000 + OddBridge.BAD * 100 + OddBridge.NO * 10 + OddBridge.FULL, -1234);
    }

    private static long digestOfNone() {
        long h = 643;
        for (int v : new int[] {0, 0, 0, 0, 3, 0, 1}) {
            h = 31 * h + v;
        }
        return h;
    }

    private static void walkers() {
        OddBridge x = new OddBridge();
        Due.bad(x, "2: walker(-1, 1, 0)", () -> x.walker(-1, 1, 0));
        Due.bad(x, "2: walker(8, 1, 0)", () -> x.walker(8, 1, 0));
        Due.bad(x, "2: walker(0, 0, 0)", () -> x.walker(0, 0, 0));
        Due.bad(x, "2: walker(0, 21, 0)", () -> x.walker(0, 21, 0));
        Due.bad(x, "2: walker(0, 1, -1)", () -> x.walker(0, 1, -1));
        Due.bad(x, "2: walker(0, 1, 100)", () -> x.walker(0, 1, 100));
        for (int i = 0; i < 8; i++) {
            Due.is("2: walker", x.walker(7 - i, i == 0 ? 1 : 20, i == 0 ? 0 : 99), i);
        }
        Due.full(x, "2: the ninth walker", () -> x.walker(0, 1, 0));
        Due.bad(x, "2: the ninth walker, of no kind", () -> x.walker(9, 1, 0));
        Due.bad(x, "2: walker at the ends of int", () -> x.walker(Integer.MIN_VALUE, Integer.MAX_VALUE, 0));
    }

    private static void wallAndPrice() {
        OddBridge x = new OddBridge();
        Due.is("3: put(0, 19)", x.put(0, 19), 0);
        Due.is("3: put(0, 1)", x.put(0, 1), 19);
        Due.is("3: put(1, 99)", x.put(1, 99), 3);
        Due.is("3: put(1, 0)", x.put(1, 0), 99);
        Due.is("3: put(0, 0)", x.put(0, 0), 1);
        Due.bad(x, "3: put(0, 20)", () -> x.put(0, 20));
        Due.bad(x, "3: put(0, -1)", () -> x.put(0, -1));
        Due.bad(x, "3: put(1, 100)", () -> x.put(1, 100));
        Due.bad(x, "3: put(1, -1)", () -> x.put(1, -1));
        Due.bad(x, "3: put(2, 0)", () -> x.put(2, 0));
        Due.bad(x, "3: put(-1, 0)", () -> x.put(-1, 0));
    }

    private static void broughtBySets() {
        OddBridge x = Due.ofKinds(0, 1, 2, 3, 4, 5, 6, 7);
        int[][] due = {
            {1, 0, 0, 0, 0}, {1, 0, 1, 0, 0}, {1, 2, 0, 0, 0}, {1, 0, 0, 1, 0},
            {1, 0, 0, 0, 1}, {0, 0, 0, 0, 0}, {1, 0, 0, 1, 2}, {1, 1, 2, 0, 0},
        };
        for (int set = 0; set < 256; set++) {
            for (int what = 0; what < 5 && set % 7 < 2; what++) {
                int sum = 0;
                for (int kind = 0; kind < 8; kind++) {
                    sum += (set >> kind & 1) * due[kind][what];
                }
                Due.is("7: brings(" + set + ", " + what + ")", x.brings(set, what), sum);
            }
        }
        Due.bad(x, "7: brings(256, 0)", () -> x.brings(256, 0));
        Due.bad(x, "7: brings(-1, 0)", () -> x.brings(-1, 0));
        Due.bad(x, "7: brings(0, 5)", () -> x.brings(0, 5));
        Due.bad(x, "7: brings(0, -1)", () -> x.brings(0, -1));
        OddBridge two = Due.ofKinds(2, 2);
        Due.is("7: brings(3, 1)", two.brings(3, 1), 4);
        Due.bad(two, "7: brings(4, 1) of two", () -> two.brings(4, 1));
    }

    private static void counts() {
        OddBridge x = Due.vow(Due.ofKinds(0, 1, 2), "p+u+b");
        x.say(0, 0, 0);
        x.say(0, 0, 0);
        Due.is("26: count(0)", x.count(0), 3);
        Due.is("26: count(1)", x.count(1), 5);
        Due.is("26: count(2)", x.count(2), 2);
        Due.bad(x, "26: count(3)", () -> x.count(3));
        Due.bad(x, "26: count(-1)", () -> x.count(-1));
    }
}
