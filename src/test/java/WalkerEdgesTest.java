/** Promises 1 to 3, 7, 15, 26 at the edges: none and eight WALKERS, the ends of what they are told, WALL and PRICE. */
public final class WalkerEdgesTest {
    private WalkerEdgesTest() { }

    public static void main(String[] args) {
        noWalkers();
        asTheyCome();
        whatIsKept();
        eachKindAlone();
        manyOfOneKind();
        wallAndPrice();
        counts();
        doubts();
        fiveHundredAndTwelveCalls();
        Due.end("WalkerEdgesTest");
    }

    private static void noWalkers() {
        OddBridge x = new OddBridge();
        for (int what = 0; what < 5; what++) {
            Due.is("7: brings(0, " + what + ") of none", x.brings(0, what), 0);
        }
        Due.is("16: odd(0) of none", x.odd(0), 1);
        Due.is("16: part(0) of none", x.part(0), 0);
        Due.is("16: part(1) of none", x.part(1), 1);
        Due.is("9: on(199) of none", x.on(199), 0);
        Due.is("11: faulty(0) of none", x.faulty(0), 0);
        Due.is("11: faulty(1) of none", x.faulty(1), -1);
        Due.is("20: dispute(0) of none", x.dispute(0), 0);
        Due.is("21: lied(0) of none", x.lied(0), 0);
        Due.is("21: lied(1) of none", x.lied(1), 0);
        Due.is("19: hush() of none", x.hush(), 0);
        Due.is("5: erase() of none", x.erase(), 0);
        Due.is("25: status(0) of none", x.status(0), 0);
    }

    private static void asTheyCome() {
        OddBridge x = new OddBridge();
        for (int i = 0; i < 8; i++) {
            Due.is("26: count(0) ahead of WALKER " + i, x.count(0), i);
            Due.is("2: WALKER " + i, x.walker(7 - i, 20 - i, 99 - i), i);
        }
        Due.is("2: the ninth", x.walker(0, 1, 0), -4);
        Due.is("26: count(0) behind the ninth", x.count(0), 8);
    }

    /** KIND, TIME, COMES at both ends are kept as they were told. */
    private static void whatIsKept() {
        int[][] told = {{0, 1, 0}, {7, 20, 99}, {0, 20, 0}, {7, 1, 99}};
        for (int[] w : told) {
            OddBridge x = new OddBridge();
            x.walker(w[0], w[1], w[2]);
            long h = 643;
            for (int v : new int[] {1, 0, 0, w[0], w[1], w[2], 10, 0, 3, 0, 1}) {
                h = 31 * h + v;
            }
            Due.is("27: digest() of WALKER " + w[0] + ", " + w[1] + ", " + w[2], x.digest(), h);
        }
    }

    private static final int[][] BROUGHT = {
        {1, 0, 0, 0, 0}, {1, 0, 1, 0, 0}, {1, 2, 0, 0, 0}, {1, 0, 0, 1, 0},
        {1, 0, 0, 0, 1}, {0, 0, 0, 0, 0}, {1, 0, 0, 1, 2}, {1, 1, 2, 0, 0},
    };

    private static void eachKindAlone() {
        for (int kind = 0; kind < 8; kind++) {
            OddBridge x = Due.ofKinds(kind);
            for (int what = 0; what < 5; what++) {
                Due.is("7: brings(1, " + what + ") of KIND " + kind, x.brings(1, what), BROUGHT[kind][what]);
                Due.is("7: brings(0, " + what + ") of KIND " + kind, x.brings(0, what), 0);
            }
        }
    }

    private static void manyOfOneKind() {
        for (int kind = 0; kind < 8; kind++) {
            OddBridge x = Due.ofKinds(kind, kind, kind, kind, kind, kind, kind, kind);
            for (int what = 0; what < 5; what++) {
                Due.is("7: brings(255, " + what + ") of eight of " + kind, x.brings(255, what), 8 * BROUGHT[kind][what]);
                Due.is("7: brings(128, " + what + ") of eight of " + kind, x.brings(128, what), BROUGHT[kind][what]);
                Due.is("7: brings(127, " + what + ") of eight of " + kind, x.brings(127, what), 7 * BROUGHT[kind][what]);
            }
        }
    }

    private static void wallAndPrice() {
        OddBridge x = new OddBridge();
        int was = 0;
        for (int v : new int[] {19, 0, 1, 1, 18}) {
            Due.is("3: put(0, " + v + ")", x.put(0, v), was);
            was = v;
        }
        was = 3;
        for (int v : new int[] {99, 0, 1, 1, 98}) {
            Due.is("3: put(1, " + v + ")", x.put(1, v), was);
            was = v;
        }
        Due.is("3: a refused WALL", x.put(0, 20), -2);
        Due.is("3: a refused PRICE", x.put(1, 100), -2);
        Due.is("3: WALL is as it was", x.put(0, 0), 18);
        Due.is("3: PRICE is as it was", x.put(1, 0), 98);
    }

    private static void counts() {
        OddBridge x = Edge.full();
        Due.is("26: count(0), full", x.count(0), 8);
        Due.is("26: count(1), full", x.count(1), 40);
        Due.is("26: count(2), full", x.count(2), 8);
        x.erase();
        x.hush();
        Due.is("26: count(0), the WALKERS stay", x.count(0), 8);
        Due.is("26: count(1), erased", x.count(1), 0);
        Due.is("26: count(2), hushed", x.count(2), 0);
    }

    private static void doubts() {
        OddBridge x = Due.ofKinds(0, 1, 2, 3, 4, 5, 6, 7);
        for (int walker = 0; walker < 8; walker++) {
            Due.is("15: DOUBTED of " + walker + " at first", x.doubt(walker, 0), 10);
            Due.is("15: DOUBTED of " + walker + ", 0", x.doubt(walker, walker), 0);
        }
        for (int walker = 0; walker < 8; walker++) {
            Due.is("15: DOUBTED of " + walker + " is its own", x.doubt(walker, 10), walker);
            Due.is("15: refused for " + walker, x.doubt(walker, 11), -2);
            Due.is("15: DOUBTED of " + walker + " is as it was", x.doubt(walker, 10), 10);
        }
    }

    /** The last of 512 calls is answered like the first. */
    private static void fiveHundredAndTwelveCalls() {
        OddBridge x = new OddBridge();
        x.walker(0, 20, 0);
        for (int i = 0; i < 169; i++) {
            Due.is("4: write, over and over", x.write("1+m".charAt(i % 3)), 1);
            Due.is("9: on(0), over and over", x.on(0), i % 3 == 2 ? 0 : 1);
            Due.is("5: erase(), over and over", x.erase(), 1);
        }
        Due.is("25: status(0), call 509", x.status(0), 0);
        Due.is("3: put(0, 7), call 510", x.put(0, 7), 0);
        Due.is("9: on(19), call 511", x.on(19), 1);
        Due.is("10: stepped(0, 1), call 512", x.stepped(0, 1), 20);
    }
}
