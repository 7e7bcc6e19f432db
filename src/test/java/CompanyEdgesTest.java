/** Promises 12 to 17 and 22 at the edges of what the sentences of COMPANIES name. */
public final class CompanyEdgesTest {
    private CompanyEdgesTest() { }

    public static void main(String[] args) {
        noWalkers();
        timesAtTheirEnds();
        oneByOne();
        eightBeggars();
        prices();
        whoIsABeggar();
        inMinuteNothing();
        minutesThenPayThenBits();
        leastPay();
        itCanNotBe();
        tollAtItsEnds();
        doubtedAtTheirEnds();
        homeOfAllNumbers();
        theFraction();
        Due.end("CompanyEdgesTest");
    }

    private static void least(String of, OddBridge x, int minutes, int pay, int companies, int leastPay) {
        Due.is("12: least(0) " + of, x.least(0), minutes);
        Due.is("12: least(1) " + of, x.least(1), pay);
        Due.is("12: least(2) " + of, x.least(2), companies);
        Due.is("12: least(3) " + of, x.least(3), leastPay);
    }

    private static void row(String of, OddBridge x, int... due) {
        for (int i = 0; i < due.length; i++) {
            Due.is("13: row(" + i + ") " + of, x.row(i), due[i]);
        }
        for (int i : new int[] {due.length, due.length + 1, 8, 9, 256, Integer.MAX_VALUE}) {
            Due.is("13: row(" + i + ") " + of, x.row(i), i < due.length ? due[i] : -5);
        }
    }

    private static void fraction(String of, OddBridge x, long above, long below) {
        Due.is("22: part(0) behind " + of, x.part(0), above);
        Due.is("22: part(1) behind " + of, x.part(1), below);
    }

    private static void noWalkers() {
        OddBridge x = new OddBridge();
        least("of none", x, 0, 0, 0, 0);
        row("of none", x);
        Due.vow(x, "0");
        x.put(1, 99);
        least("of none, by 0", x, 0, 0, 0, 0);
        row("of none, by 0", x);
    }

    private static void timesAtTheirEnds() {
        least("of TIME 1", Due.ofTimes(1), 1, 0, 1, 0);
        least("of TIME 20", Due.ofTimes(20), 20, 0, 1, 0);
        least("of TIMES 1 and 20", Due.vow(Due.ofTimes(1, 20), "1"), 20, 0, 1, 0);
        least("of TIMES 20 and 1", Due.vow(Due.ofTimes(20, 1), "1"), 20, 0, 1, 0);
        OddBridge late = new OddBridge();
        late.image(0);
        late.walker(0, 7, 99);
        least("whenever it comes", late, 7, 0, 1, 0);
        late.from(0);
        late.walker(0, 1, 0);
        least("the quick one in place of the slow", late, 1, 0, 1, 0);
    }

    private static void oneByOne() {
        OddBridge x = Due.vow(Due.ofTimes(20, 20, 20, 20, 20, 20, 20, 20), "p=1");
        least("of eight one by one", x, 160, 0, 8, 0);
        row("of eight one by one", x, 1, 2, 4, 8, 16, 32, 64, 128);
        Due.vow(x, "1");
        least("of eight together", x, 20, 0, 1, 0);
        row("of eight together", x, 255);
        Due.vow(x, "p=2");
        least("of eight by two", x, 80, 0, 4, 0);
        row("of eight by two", x, 3, 12, 48, 192);
        Due.vow(x, "p=7");
        least("of seven and one, who can not be seven", x, -1, -1, -1, -1);
        Due.vow(x, "p=9");
        least("of nine with a BEGGAR", x, 20, 3, 1, 3);
        row("of nine with a BEGGAR", x, 511);
    }

    /** Each WITH CHILD goes alone with a BEGGAR. */
    private static void eightBeggars() {
        OddBridge x = Due.vow(Due.ofKinds(1, 1, 1, 1, 1, 1, 1, 1), "p=2&u=1");
        least("of eight with BEGGARS", x, 8, 24, 8, 24);
        row("of eight with BEGGARS", x, 257, 258, 260, 264, 272, 288, 320, 384);
        x.put(1, 99);
        least("of eight with BEGGARS at 99", x, 8, 792, 8, 792);
        x.put(1, 0);
        least("of eight with BEGGARS for nothing", x, 8, 0, 8, 0);
        row("of eight with BEGGARS for nothing", x, 257, 258, 260, 264, 272, 288, 320, 384);
        Due.is("14: toll(1, 0) with BEGGARS", x.toll(1, 0), 1);
        fraction("toll(1, 0) with BEGGARS", x, 16983563041L, 25600000000L);
    }

    private static void prices() {
        OddBridge x = Due.ofTimes(5, 6);
        least("at 3, as at first", x, 6, 3, 1, 0);
        for (int price : new int[] {0, 1, 98, 99}) {
            x.put(1, price);
            least("at " + price, x, 6, price, 1, 0);
            row("at " + price, x, 259);
        }
        Due.is("3: a refused PRICE", x.put(1, 100), -2);
        least("at 99 still", x, 6, 99, 1, 0);
    }

    /** PLAIN: one p more and nothing else; one alone; none where it is WELL without. */
    private static void whoIsABeggar() {
        OddBridge x = Due.vow(Due.ofKinds(0), "p=2");
        least("who needs one", x, 1, 3, 1, 3);
        Due.vow(x, "p=3");
        least("who would need two", x, -1, -1, -1, -1);
        Due.vow(x, "p=1");
        row("who needs none", x, 1);
        Due.vow(x, "p=1|p=2");
        row("who is WELL with and without", x, 1);
        x.put(1, 0);
        row("who is WELL with and without, for nothing", x, 1);
        for (String text : new String[] {"b", "u", "d", "l", "b+u+d+l", "m", "0*p"}) {
            Due.vow(x, text);
            least("by " + text, x, -1, -1, -1, -1);
        }
        least("of a PRIEST", Due.ofKinds(5), 1, 3, 1, 3);
        least("of a HERD", Due.vow(Due.ofKinds(2), "p+b"), 1, 0, 1, 0);
        least("of a MIDWIFE", Due.vow(Due.ofKinds(7), "p+b"), 1, 3, 1, 3);
        least("of the slow", Due.vow(Due.ofTimes(1), "p=2"), 1, 3, 1, 3);
    }

    private static void inMinuteNothing() {
        OddBridge x = Due.ofTimes(4, 5, 6);
        Due.vow(x, "m=0");
        least("by m=0", x, 6, 0, 1, 0);
        Due.vow(x, "m=1");
        least("by m=1", x, -1, -1, -1, -1);
        Due.vow(x, "p=1&m=0");
        least("the next are in minute 0 too", x, 15, 0, 3, 0);
    }

    private static void minutesThenPayThenBits() {
        OddBridge sooner = Due.ofTimes(2, 2);
        sooner.put(1, 99);
        least("one minute for 99", Due.vow(sooner, "p"), 2, 99, 1, 0);
        OddBridge cheaper = Due.vow(Due.ofTimes(5, 5, 5, 1), "p=2|p=4");
        least("of like minutes the least pay", cheaper, 5, 0, 1, 0);
        OddBridge bits = Due.vow(Due.ofTimes(5, 5, 5), "p=2");
        least("of like minutes and pay", bits, 10, 3, 2, 3);
        row("the first begins with the least bits", bits, 257, 6);
        OddBridge four = Due.vow(Due.ofTimes(5, 5, 1, 1), "p=2");
        row("the slow ones together, though it begins with more", four, 3, 12);
        OddBridge cross = Due.vow(Due.ofTimes(5, 1, 5, 1), "p=2");
        row("0 with 2", cross, 5, 10);
        OddBridge around = Due.vow(Due.ofTimes(5, 1, 1, 5), "p=2");
        row("the least that is left leads, though its bits are more", around, 9, 6);
        OddBridge herd = Due.vow(Due.ofKinds(0, 0, 2), "p=2|b>p");
        least("of like minutes the least pay, though its bits are more", herd, 2, 0, 2, 0);
        row("of like minutes the least pay, though its bits are more", herd, 3, 4);
        OddBridge lastOne = Due.vow(Due.ofTimes(5, 5, 5, 5, 5, 5, 5, 1), "p=7|p=1");
        row("the quick one goes alone, the seven ahead of it", lastOne, 127, 128);
        OddBridge five = Due.vow(Due.ofTimes(1, 1, 1, 1, 1), "p=1|p=2");
        least("three companies", five, 3, 0, 3, 0);
        row("the second begins with the least bits", five, 1, 6, 24);
    }

    private static void leastPay() {
        OddBridge x = Due.ofTimes(20, 20, 20, 20, 20, 20, 20, 20);
        least("seven and one cost nothing", x, 20, 3, 1, 0);
        OddBridge y = Due.vow(Due.ofTimes(3, 3, 3), "p=2|p=4");
        y.put(1, 10);
        least("one is left over in any case", y, 3, 10, 1, 10);
        OddBridge z = Due.vow(Due.ofTimes(1, 20, 1), "p=1|p=4");
        least("one by one costs nothing", z, 20, 3, 1, 0);
        OddBridge w = new OddBridge();
        w.walker(0, 1, 0);
        w.walker(0, 9, 0);
        w.walker(2, 9, 0);
        Due.vow(w, "p=2|p=1&b=2");
        least("the cheapest begins with more bits and is slower", w, 10, 3, 2, 0);
        row("the cheapest begins with more bits and is slower", w, 257, 6);
    }

    private static void itCanNotBe() {
        OddBridge x = Due.vow(Due.ofTimes(1, 2), "0");
        least("by 0", x, -1, -1, -1, -1);
        row("by 0", x);
        Due.is("14: toll(0, 8) by 0", x.toll(0, 8), -3);
        OddBridge one = Due.ofKinds(0, 0, 1);
        Due.vow(one, "p*(u=0)");
        least("one of three can not", one, -1, -1, -1, -1);
        Due.vow(one, "p*(u<2)");
        least("all can", one, 1, 0, 1, 0);
    }

    private static void toll(OddBridge x, int e, int n, long above, long below) {
        Due.is("14: toll(" + e + ", " + n + ")", x.toll(e, n), 1);
        fraction("toll(" + e + ", " + n + ")", x, above, below);
    }

    private static void tollAtItsEnds() {
        OddBridge none = new OddBridge();
        toll(none, 20, 0, 1, 1);
        toll(none, 0, 8, 1, 1);
        OddBridge one = Due.ofTimes(1);
        toll(one, 0, 0, 1, 1);
        toll(one, 20, 0, 0, 1);
        toll(one, 20, 1, 1, 1);
        toll(one, 1, 0, 19, 20);
        toll(one, 19, 0, 1, 20);
        toll(one, 10, 0, 1, 2);
        toll(one, 19, 1, 1, 1);
        toll(one, 19, 8, 1, 1);
        OddBridge eight = Due.vow(Due.ofKinds(0, 0, 0, 0, 0, 0, 0, 0), "p=1");
        toll(eight, 20, 7, 0, 1);
        toll(eight, 20, 8, 1, 1);
        toll(eight, 20, 0, 0, 1);
        toll(eight, 0, 0, 1, 1);
        toll(eight, 0, 8, 1, 1);
        toll(eight, 10, 0, 1, 256);
        toll(eight, 10, 1, 9, 256);
        toll(eight, 10, 3, 93, 256);
        toll(eight, 10, 4, 163, 256);
        toll(eight, 10, 7, 255, 256);
        toll(eight, 19, 0, 1, 25600000000L);
        toll(eight, 1, 7, 25599999999L, 25600000000L);
        toll(eight, 19, 8, 1, 1);
    }

    private static void odd(OddBridge x, int set, long above, long below) {
        Due.is("16: odd(" + set + ")", x.odd(set), 1);
        fraction("odd(" + set + ")", x, above, below);
    }

    /** One each, whatever the KIND: a PRIEST too, a HERD not three. */
    private static void doubtedAtTheirEnds() {
        OddBridge x = Due.ofKinds(0, 1, 2, 3, 4, 5, 6, 7);
        odd(x, 0, 0, 1);
        for (int i = 0; i < 8; i++) {
            odd(x, 1 << i, 1, 1);
        }
        odd(x, 255, 0, 1);
        odd(x, 127, 1, 1);
        for (int i = 0; i < 8; i++) {
            x.doubt(i, 0);
        }
        odd(x, 255, 0, 1);
        odd(x, 127, 0, 1);
        odd(x, 128, 0, 1);
        x.doubt(7, 1);
        odd(x, 255, 1, 10);
        odd(x, 128, 1, 10);
        odd(x, 127, 0, 1);
        x.doubt(7, 9);
        odd(x, 255, 9, 10);
        x.doubt(0, 5);
        odd(x, 255, 1, 2);
        x.doubt(0, 10);
        odd(x, 255, 1, 10);
        odd(x, 254, 9, 10);
    }

    /** Ways: sizes told one by one; fewest: as many of the largest odd size as fit, and what is left in one or two. */
    private static void homeOfAllNumbers() {
        for (int n = 1; n <= 40; n++) {
            OddBridge x = new OddBridge();
            for (int room = 1; room <= 20; room++) {
                int people = n - 1;
                int largest = room - 1 + room % 2;
                int rest = people % largest;
                int fewest = people / largest + (rest == 0 ? 0 : rest % 2 == 1 ? 1 : 2);
                Due.is("17: home(" + n + ", " + room + ", 0)", x.home(n, room, 0), ways(people, 1, room));
                Due.is("17: home(" + n + ", " + room + ", 1)", x.home(n, room, 1), fewest);
            }
        }
    }

    private static int ways(int people, int size, int room) {
        if (people == 0) {
            return 1;
        }
        return size > room || size > people ? 0 : ways(people - size, size, room) + ways(people, size + 2, room);
    }

    private static void theFraction() {
        OddBridge x = Due.ofTimes(1, 1);
        fraction("nothing", x, 0, 1);
        x.odd(3);
        fraction("odd(3)", x, 0, 1);
        x.doubt(0, 4);
        x.odd(3);
        fraction("odd(3) with a doubt", x, 3, 5);
        Due.is("16: odd(4)", x.odd(4), -2);
        Due.is("14: toll(21, 0)", x.toll(21, 0), -2);
        Due.vow(x, "0");
        Due.is("14: toll(0, 0)", x.toll(0, 0), -3);
        x.doubt(0, 0);
        x.walker(0, 1, 0);
        x.put(1, 0);
        fraction("all that does not tell one", x, 3, 5);
        x.erase();
        x.toll(0, 0);
        fraction("toll(0, 0)", x, 1, 1);
        x.odd(0);
        fraction("odd(0)", x, 0, 1);
    }
}
