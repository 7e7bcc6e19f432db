/** Promises 18 to 21: what was SAID, the DISPUTE, WITHOUT and LIARS. */
public final class SaidTest {
    private SaidTest() { }

    public static void main(String[] args) {
        saying();
        dispute();
        liars();
        Due.end("SaidTest");
    }

    private static long minutes(int a, int b) {
        long minutes = 0;
        for (int minute = a; minute <= b; minute++) {
            minutes |= 1L << minute;
        }
        return minutes;
    }

    private static void saying() {
        OddBridge x = Due.ofTimes(1, 1);
        Due.bad(x, "18: say(2, 0, 0)", () -> x.say(2, 0, 0));
        Due.bad(x, "18: say(-1, 0, 0)", () -> x.say(-1, 0, 0));
        Due.bad(x, "18: say(0, -1, 0)", () -> x.say(0, -1, 0));
        Due.bad(x, "18: say(0, 1, 0)", () -> x.say(0, 1, 0));
        Due.bad(x, "18: say(0, 0, 63)", () -> x.say(0, 0, 63));
        Due.bad(x, "18: say(0, 63, 63)", () -> x.say(0, 63, 63));
        for (int i = 0; i < 8; i++) {
            Due.is("18: say", x.say(i % 2, i == 0 ? 62 : 0, i == 1 ? 0 : 62), i);
        }
        Due.full(x, "18: the ninth", () -> x.say(0, 0, 0));
        Due.bad(x, "18: the ninth, of nobody", () -> x.say(2, 0, 0));
        Due.is("19: hush()", x.hush(), 8);
        Due.is("19: hush() again", x.hush(), 0);
        Due.is("19: count(2)", x.count(2), 0);
        Due.is("18: say", x.say(0, 0, 0), 0);
        OddBridge none = new OddBridge();
        Due.bad(none, "18: say(0, 0, 0) of none", () -> none.say(0, 0, 0));
    }

    private static void dispute() {
        OddBridge x = Due.ofTimes(1, 1, 1);
        Due.is("20: dispute(0), nothing said", x.dispute(0), 0);
        Due.bad(x, "20: dispute(1), nothing said", () -> x.dispute(1));
        x.say(0, 0, 62);
        Due.is("20: one is odd", x.dispute(0), 0);
        x.say(1, 60, 62);
        Due.is("20: two are even", x.dispute(0), minutes(60, 62));
        x.say(1, 61, 61);
        Due.is("20: who said it twice counts once", x.dispute(0), minutes(60, 62));
        Due.is("20: but the second", x.dispute(2), minutes(61, 61));
        Due.is("20: but the first", x.dispute(1), 0);
        Due.is("20: but all", x.dispute(7), 0);
        Due.bad(x, "20: dispute(8)", () -> x.dispute(8));
        Due.bad(x, "20: dispute(-1)", () -> x.dispute(-1));
        Due.vow(x, "m=62");
        Due.is("20: by the minute", x.dispute(0), minutes(0, 61));
        Due.vow(x, "0");
        Due.is("20: never well", x.dispute(0), Long.MAX_VALUE);
        Due.is("20: where nobody was on", x.dispute(3), minutes(61, 61));
    }

    private static void liars() {
        OddBridge x = Due.ofTimes(1, 1, 1);
        Due.is("21: lied(0), nothing said", x.lied(0), 0);
        Due.is("21: lied(1), nothing said", x.lied(1), 0);
        x.say(0, 0, 10);
        Due.is("21: each alone may be left out", x.lied(0), 1);
        Due.is("21: none needs to be", x.lied(1), 0);
        x.say(1, 5, 7);
        Due.is("21: either lied", x.lied(0), 3);
        Due.is("21: the least of like ones", x.lied(1), 1);
        x.say(2, 5, 6);
        Due.is("21: one odd more", x.lied(0), 0);
        Due.is("21: two must be left out", x.lied(1), 3);
        x.say(2, 7, 7);
        Due.is("21: now all is well", x.lied(1), 0);
        Due.is("21: and one alone makes it so", x.lied(0), 0);
        Due.vow(x, "0");
        Due.is("21: all lied", x.lied(1), 15);
        OddBridge ends = Due.vow(Due.ofTimes(1, 1), "m>0");
        ends.say(0, 0, 0);
        ends.say(1, 1, 1);
        Due.is("21: minute 0 is looked at", ends.lied(1), 1);
        Due.vow(ends, "m<62");
        ends.say(0, 62, 62);
        Due.is("21: minute 62 is looked at", ends.lied(1), 4);
        Due.bad(x, "21: lied(2)", () -> x.lied(2));
        Due.bad(x, "21: lied(-1)", () -> x.lied(-1));
    }
}
