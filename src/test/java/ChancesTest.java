/** Promises 14 to 17 and 22: TOLL MEN, DOUBTED, HOME, THE FRACTION. */
public final class ChancesTest {
    private ChancesTest() { }

    public static void main(String[] args) {
        toll();
        doubt();
        odd();
        home();
        part();
        Due.end("ChancesTest");
    }

    private static void fraction(String of, OddBridge x, long above, long below) {
        Due.is("22: part(0) behind " + of, x.part(0), above);
        Due.is("22: part(1) behind " + of, x.part(1), below);
    }

    private static void toll(OddBridge x, int e, int n, long above, long below) {
        String call = "toll(" + e + ", " + n + ")";
        Due.is("14: " + call, x.toll(e, n), 1);
        fraction(call, x, above, below);
    }

    private static void toll() {
        OddBridge x = Due.vow(Due.ofTimes(1, 1, 1), "p=1");
        Due.is("14: three companies", x.least(2), 3);
        toll(x, 5, 0, 27, 64);
        toll(x, 5, 1, 27, 32);
        toll(x, 5, 2, 63, 64);
        toll(x, 5, 3, 1, 1);
        toll(x, 5, 8, 1, 1);
        toll(x, 0, 0, 1, 1);
        toll(x, 20, 2, 0, 1);
        toll(x, 20, 3, 1, 1);
        toll(x, 1, 0, 6859, 8000);
        OddBridge eight = Due.vow(Due.ofTimes(1, 1, 1, 1, 1, 1, 1, 1), "p=1");
        toll(eight, 1, 0, 16983563041L, 25600000000L);
        toll(eight, 19, 7, 25600000000L - 16983563041L, 25600000000L);
        toll(eight, 7, 8, 1, 1);
        toll(new OddBridge(), 20, 0, 1, 1);
        Due.bad(x, "14: toll(-1, 0)", () -> x.toll(-1, 0));
        Due.bad(x, "14: toll(21, 0)", () -> x.toll(21, 0));
        Due.bad(x, "14: toll(0, -1)", () -> x.toll(0, -1));
        Due.bad(x, "14: toll(0, 9)", () -> x.toll(0, 9));
        Due.vow(x, "0");
        Due.no(x, "14: toll(0, 0)", () -> x.toll(0, 0));
        Due.bad(x, "14: toll(21, 0) without a row", () -> x.toll(21, 0));
        fraction("what was refused", x, 6859, 8000);
    }

    private static void doubt() {
        OddBridge x = Due.ofTimes(1, 1);
        Due.is("15: doubt(0, 4)", x.doubt(0, 4), 10);
        Due.is("15: doubt(0, 0)", x.doubt(0, 0), 4);
        Due.is("15: doubt(0, 10)", x.doubt(0, 10), 0);
        Due.is("15: doubt(1, 10)", x.doubt(1, 10), 10);
        Due.bad(x, "15: doubt(2, 5)", () -> x.doubt(2, 5));
        Due.bad(x, "15: doubt(-1, 5)", () -> x.doubt(-1, 5));
        Due.bad(x, "15: doubt(0, 11)", () -> x.doubt(0, 11));
        Due.bad(x, "15: doubt(0, -1)", () -> x.doubt(0, -1));
    }

    private static void odd(OddBridge x, int set, long above, long below) {
        Due.is("16: odd(" + set + ")", x.odd(set), 1);
        fraction("odd(" + set + ")", x, above, below);
    }

    private static void odd() {
        OddBridge x = Due.ofKinds(7, 5, 2);
        odd(x, 0, 0, 1);
        odd(x, 7, 1, 1);
        odd(x, 5, 0, 1);
        x.doubt(0, 3);
        x.doubt(1, 1);
        odd(x, 1, 3, 10);
        odd(x, 2, 1, 10);
        odd(x, 3, 17, 50);
        odd(x, 7, 33, 50);
        x.doubt(2, 0);
        odd(x, 7, 17, 50);
        OddBridge eight = Due.ofKinds(0, 1, 2, 3, 4, 5, 6, 7);
        for (int i = 0; i < 8; i++) {
            eight.doubt(i, 1);
        }
        odd(eight, 255, 100000000L - 16777216L >> 8, 200000000L >> 8);
        Due.bad(x, "16: odd(8)", () -> x.odd(8));
        Due.bad(x, "16: odd(-1)", () -> x.odd(-1));
        fraction("what was refused", x, 17, 50);
    }

    private static void home(int n, int room, int ways, int fewest) {
        OddBridge x = new OddBridge();
        Due.is("17: home(" + n + ", " + room + ", 0)", x.home(n, room, 0), ways);
        Due.is("17: home(" + n + ", " + room + ", 1)", x.home(n, room, 1), fewest);
    }

    private static void home() {
        home(1, 1, 1, 0);
        home(1, 20, 1, 0);
        home(2, 1, 1, 1);
        home(4, 20, 2, 1);
        home(5, 20, 2, 2);
        home(6, 4, 2, 3);
        home(6, 5, 3, 1);
        home(7, 5, 4, 2);
        home(40, 1, 1, 39);
        home(40, 2, 1, 39);
        home(40, 19, 843, 3);
        home(40, 20, 843, 3);
        home(39, 19, 750, 2);
        OddBridge x = new OddBridge();
        Due.bad(x, "17: home(0, 1, 0)", () -> x.home(0, 1, 0));
        Due.bad(x, "17: home(41, 1, 0)", () -> x.home(41, 1, 0));
        Due.bad(x, "17: home(5, 0, 0)", () -> x.home(5, 0, 0));
        Due.bad(x, "17: home(5, 21, 0)", () -> x.home(5, 21, 0));
        Due.bad(x, "17: home(5, 5, 2)", () -> x.home(5, 5, 2));
        Due.bad(x, "17: home(5, 5, -1)", () -> x.home(5, 5, -1));
    }

    private static void part() {
        OddBridge x = new OddBridge();
        fraction("nothing", x, 0, 1);
        Due.bad(x, "22: part(2)", () -> x.part(2));
        Due.bad(x, "22: part(-1)", () -> x.part(-1));
    }
}
