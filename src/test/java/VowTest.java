/** Promises 4, 5, 6, 8: THE VOW, its FAULT, and which sets are WELL. */
public final class VowTest {
    private VowTest() { }

    public static void main(String[] args) {
        writing();
        flaws();
        values();
        wellness();
        Due.end("VowTest");
    }

    private static void writing() {
        OddBridge x = new OddBridge();
        Due.bad(x, "4: write(-1)", () -> x.write(-1));
        Due.bad(x, "4: write(128)", () -> x.write(128));
        for (int i = 1; i <= 40; i++) {
            Due.is("4: write", x.write(i == 1 ? 0 : i == 2 ? 127 : ' '), i);
        }
        Due.full(x, "4: the 41st", () -> x.write('p'));
        Due.bad(x, "4: the 41st, no character", () -> x.write(128));
        Due.is("4: fault()", x.fault(), 1);
        Due.is("5: erase()", x.erase(), 40);
        Due.is("5: erase() again", x.erase(), 0);
        Due.is("5: count(1)", x.count(1), 0);
        Due.is("5: fault()", x.fault(), 1);
        Due.is("5: write", x.write('p'), 1);
        Due.is("5: fault()", x.fault(), -1);
    }

    private static void flaw(String text, int due) {
        Due.is("6: fault() of \"" + text + "\"", Due.vow(new OddBridge(), text).fault(), due);
    }

    private static void flaws() {
        for (String fine : new String[] {"p", " p ", "1", "000000", "p|b&u<d+l*m", "-p", "!p", "!-!- p", "- - 1", "p--b",
            "(p)", "((((((((p))))))))", "((((((((1))))))))+((((((((1))))))))", "p+-b", "p*!b", "(p<b)<u", "p<b&u<d|l=m",
            "1 + 2", "123456*654321", "( p )", "!(p)", "p<b|p<b", "999999", "p / 0"}) {
            flaw(fine, -1);
        }
        flaw("", 1);
        flaw(" ", 11);
        flaw("   ", 31);
        flaw("p+", 21);
        flaw("p+  ", 41);
        flaw("p+)", 21);
        flaw("(", 11);
        flaw("(p", 21);
        flaw("p)", 11);
        flaw("()", 11);
        flaw("p p", 21);
        flaw("pp", 11);
        flaw("p1", 11);
        flaw("1p", 11);
        flaw("1 2", 21);
        flaw("p(", 11);
        flaw("(p)(", 31);
        flaw("p!", 11);
        flaw("+p", 1);
        flaw("*p", 1);
        flaw("p||b", 21);
        flaw("p<b<u", 31);
        flaw("p<b=u", 31);
        flaw("(p<b>u)", 41);
        flaw("p<=b", 21);
        flaw("P", 1);
        flaw("p\t", 11);
        flaw("p+x", 21);
        flaw("(p|b", 41);
        flaw("!", 11);
        flaw("-", 11);
        flaw("p&", 21);
        flaw("(((p))", 61);
        flaw("1234567", 2);
        flaw("0000000", 2);
        flaw("p+1234567", 22);
        flaw("p + 12345678x", 42);
        flaw("123456 7", 71);
        flaw("p 1234567", 21);
        flaw("(((((((((", 83);
        flaw("p+((((((((( ", 103);
        flaw("1+ ( ( ( ( ( ( ( ( (", 193);
        flaw("x(((((((((", 1);
        flaw("p+p+p+p+p+p+p+p+p+p+p+p+p+p+p+p+p+p+p+p+", 401);
        flaw("p+p+p+p+p+p+p+p+p+p+p+p+p+p+p+p+p+p+p-!p", -1);
        flaw("!!!!!!!!!!!!!!!!!!!!!!!!!!!!!!!!!!!!!!!p", -1);
        flaw("----------------------------------------", 401);
        flaw("((((((((!!!!!!!!!!!!!!!!!!!!!!!p))))))))", -1);
        OddBridge x = new OddBridge();
        int[] due = {11, -1, 31, -1};
        for (int i = 0; i < 4; i++) {
            x.write("-m*2".charAt(i));
            Due.is("6: fault() while it is written", x.fault(), due[i]);
        }
    }

    /** One of each KIND: p 7, b 3, u 3, d 2, l 3; minute 9. */
    private static void oddOfAll(String text, int due) {
        OddBridge x = Due.vow(Due.ofKinds(0, 1, 2, 3, 4, 5, 6, 7), text);
        Due.is("8: fault() of \"" + text + "\"", x.fault(), -1);
        Due.is("8: well(255, 9) of \"" + text + "\"", x.well(255, 9), due);
    }

    /** The value is as told: it is alone among its neighbours to be equal to it. */
    private static void value(String text, long due) {
        oddOfAll("(" + text + ")=(" + due + ")", 1);
        oddOfAll("(" + text + ")=(" + (due + 1) + ")", 0);
        oddOfAll("(" + text + ")<(" + due + ")", 0);
        oddOfAll("(" + text + ")>(" + due + ")", 0);
    }

    private static void values() {
        value("p", 7);
        value("b", 3);
        value("u", 3);
        value("d", 2);
        value("l", 3);
        value("m", 9);
        value("p+b*d", 13);
        value("(p+b)*d", 20);
        value("p-b-u", 1);
        value("p-(b-u)", 7);
        value("p/b", 2);
        value("-p/b", -2);
        value("p/-b", -2);
        value("-7/-2", 3);
        value("p/0", 0);
        value("p/(b-u)", 0);
        value("8/2/2", 2);
        value("8/2*2", 8);
        value("2*3/4", 1);
        value("--p", 7);
        value("-(-p)", 7);
        value("p--b", 10);
        value("- - - p", -7);
        value("!p", 0);
        value("!0", 1);
        value("!!p", 1);
        value("-!0", -1);
        value("!-p", 0);
        value("-!-!0", 0);
        value("!0+1", 2);
        value("!p=1", 0);
        value("-p+1", -6);
        value("p&d", 1);
        value("2|4", 1);
        value("2&4", 1);
        value("0|0", 0);
        value("2&0", 0);
        value("0|2", 1);
        value("0&0|5", 1);
        value("5|0&0", 1);
        value("1&1=1", 1);
        value("2=1|1", 1);
        value("2=(1|1)", 0);
        value("1+1<3", 1);
        value("3<1+1", 0);
        value("1>2", 0);
        value("2>1", 1);
        value("2=2", 1);
        value("(3>2)+(2>1)", 2);
        value("012", 12);
        value("4 + 5", 9);
        value("(p<b|b<p)*4", 4);
        oddOfAll("999999*999999*999999*999999+p", 0);
        oddOfAll("(999999*999999*999999*999999)<0", 1);
        oddOfAll("999999*999999*999999*999999", 1);
        oddOfAll("-p", 1);
        oddOfAll("!p", 0);
        oddOfAll("!0", 1);
        oddOfAll(" ! !p", 1);
        oddOfAll("p+m", 0);
        oddOfAll("p+d", 1);
        oddOfAll("0-3", 1);
    }

    private static void wellness() {
        OddBridge x = Due.ofKinds(0, 1, 2);
        Due.is("8: well(0, 0), no vow", x.well(0, 0), 1);
        Due.is("8: well(7, 0), no vow", x.well(7, 0), 1);
        Due.is("8: well(6, 199), no vow", x.well(6, 199), 0);
        Due.vow(x, "p+u");
        Due.is("8: well(7, 0)", x.well(7, 0), 0);
        Due.is("8: well(6, 0)", x.well(6, 0), 1);
        x.write('+');
        Due.is("8: well(7, 0) of a faulty vow", x.well(7, 0), 1);
        Due.is("8: well(6, 0) of a faulty vow", x.well(6, 0), 0);
        x.write('m');
        Due.is("8: well(7, 0)", x.well(7, 0), 0);
        Due.is("8: well(7, 1)", x.well(7, 1), 1);
        Due.is("8: well(7, 198)", x.well(7, 198), 0);
        Due.is("8: well(0, 1)", x.well(0, 1), 1);
        Due.is("8: well(0, 2)", x.well(0, 2), 1);
        x.walker(0, 1, 0);
        Due.is("8: well(15, 0)", x.well(15, 0), 1);
        Due.vow(x, "0");
        Due.is("8: well(0, 0) of 0", x.well(0, 0), 1);
        Due.is("8: well(1, 0) of 0", x.well(1, 0), 0);
        Due.bad(x, "8: well(16, 0)", () -> x.well(16, 0));
        Due.bad(x, "8: well(-1, 0)", () -> x.well(-1, 0));
        Due.bad(x, "8: well(1, 200)", () -> x.well(1, 200));
        Due.bad(x, "8: well(1, -1)", () -> x.well(1, -1));
    }
}
