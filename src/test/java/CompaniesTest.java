/** Promises 12, 13: LEAST and ROW. */
public final class CompaniesTest {
    private CompaniesTest() { }

    public static void main(String[] args) {
        alone();
        soonerThenCheaper();
        firstOfRows();
        itCanNotBe();
        minuteOfCompanies();
        whatChanges();
        wrongNumbers();
        Due.end("CompaniesTest");
    }

    private static void least(String of, OddBridge x, int minutes, int pay, int companies, int leastPay) {
        Due.is("12: least(0) " + of, x.least(0), minutes);
        Due.is("12: least(1) " + of, x.least(1), pay);
        Due.is("12: least(2) " + of, x.least(2), companies);
        Due.is("12: least(3) " + of, x.least(3), leastPay);
    }

    private static void row(String of, OddBridge x, int... due) {
        for (int i = 0; i < due.length; i++) {
            Due.is("13: row(" + i + ") " + of, x.row(i), due[i]);
        }
        Due.is("13: row behind the last " + of, x.row(due.length), -5);
        Due.is("13: row(9) " + of, x.row(9), -5);
        Due.is("13: row(MAX) " + of, x.row(Integer.MAX_VALUE), -5);
    }

    private static void alone() {
        least("of none", new OddBridge(), 0, 0, 0, 0);
        row("of none", new OddBridge());
        least("of one", Due.ofTimes(7), 7, 0, 1, 0);
        row("of one", Due.ofTimes(7), 1);
        least("of three", Due.ofTimes(7, 9, 8), 9, 0, 1, 0);
        row("of three", Due.ofTimes(7, 9, 8), 7);
    }

    /** Two plain ones: with a beggar it is sooner, without it is cheaper. */
    private static void soonerThenCheaper() {
        OddBridge x = Due.ofTimes(7, 9);
        least("of two", x, 9, 3, 1, 0);
        row("of two", x, 3 + 256);
        x.put(1, 99);
        least("of two, dear", x, 9, 99, 1, 0);
        x.put(1, 0);
        least("of two, for nothing", x, 9, 0, 1, 0);
        row("of two, for nothing", x, 3 + 256);
        OddBridge y = Due.vow(Due.ofTimes(5, 5, 4), "p=2|p=4");
        least("by two", y, 5, 3, 1, 3);
        row("by two", y, 7 + 256);
        OddBridge z = Due.vow(Due.ofTimes(5, 5, 4, 4), "p=2");
        least("by two of four", z, 9, 0, 2, 0);
        row("by two of four", z, 3, 12);
    }

    private static void firstOfRows() {
        OddBridge x = Due.vow(Due.ofTimes(3, 3, 3, 3), "p=2");
        row("by two of four alike", x, 3, 12);
        OddBridge y = Due.vow(Due.ofTimes(2, 2, 2), "p=2");
        least("one is left", y, 4, 3, 2, 3);
        row("one is left", y, 1 + 256, 6);
        OddBridge z = Due.vow(Due.ofTimes(2, 4, 4), "p=2");
        row("the quick one goes alone", z, 1 + 256, 6);
        OddBridge w = Due.vow(Due.ofTimes(4, 4, 2), "p=2");
        row("the quick one is last", w, 3, 4 + 256);
    }

    private static void itCanNotBe() {
        OddBridge x = Due.vow(Due.ofTimes(1, 2), "p*2");
        least("by p*2", x, -1, -1, -1, -1);
        row("by p*2", x);
        Due.no(x, "14: toll(1, 0)", () -> x.toll(1, 0));
        OddBridge priest = Due.vow(Due.ofKinds(5), "p=2");
        least("of a priest", priest, -1, -1, -1, -1);
        OddBridge help = Due.vow(Due.ofKinds(5), "p");
        least("of a priest with a beggar", help, 1, 3, 1, 3);
        row("of a priest with a beggar", help, 1 + 256);
    }

    private static void minuteOfCompanies() {
        OddBridge x = new OddBridge();
        x.walker(0, 5, 99);
        x.walker(0, 6, 50);
        x.walker(0, 4, 7);
        Due.vow(x, "p+m");
        least("whenever they come", x, 6, 0, 1, 0);
        Due.vow(x, "p+m+1");
        least("in minute 0", x, 6, 3, 1, 3);
    }

    private static void whatChanges() {
        OddBridge x = Due.ofTimes(5);
        Due.is("12: least(0)", x.least(0), 5);
        x.walker(0, 8, 0);
        Due.is("12: least(0) of one more", x.least(0), 8);
        x.image(1);
        x.put(1, 50);
        Due.is("12: least(1)", x.least(1), 50);
        Due.vow(x, "p=1");
        Due.is("12: least(0) one by one", x.least(0), 13);
        Due.is("13: row(1) one by one", x.row(1), 2);
        x.erase();
        Due.is("12: least(0)", x.least(0), 8);
        x.put(1, 60);
        x.from(1);
        Due.is("12: least(1) of the image", x.least(1), 3);
    }

    private static void wrongNumbers() {
        OddBridge x = Due.ofTimes(5);
        Due.bad(x, "12: least(4)", () -> x.least(4));
        Due.bad(x, "12: least(-1)", () -> x.least(-1));
        Due.refused(x, "13: row(-1)", () -> x.row(-1), -10, 0);
        Due.refused(x, "13: row(MIN)", () -> x.row(Integer.MIN_VALUE), -10, 0);
        Due.refused(x, "13: row(1) counts nowhere", () -> x.row(1), -5, 3);
    }
}
