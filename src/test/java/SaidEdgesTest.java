/** Promises 18 to 21 at the edges of what the sentences of SAID and the DISPUTE name. */
public final class SaidEdgesTest {
    private SaidEdgesTest() { }

    public static void main(String[] args) {
        asTheyCome();
        endsOfMinutes();
        fromMinuteToMinute();
        ofAWalkerAllTogether();
        nobodyOn();
        inThatMinute();
        butASet();
        without();
        liars();
        liarsOfLikeNumber();
        hushed();
        theFeastIsAnother();
        Due.end("SaidEdgesTest");
    }

    private static long minutes(int a, int b) {
        long minutes = 0;
        for (int minute = a; minute <= b; minute++) {
            minutes |= 1L << minute;
        }
        return minutes;
    }

    private static void dispute(String of, OddBridge x, int but, long due) {
        Due.is("20: dispute(" + but + ") " + of, x.dispute(but), due);
    }

    private static void lied(String of, OddBridge x, int without, int liars) {
        Due.is("21: lied(0) " + of, x.lied(0), without);
        Due.is("21: lied(1) " + of, x.lied(1), liars);
    }

    /** One plain WALKER and a vow by which nobody is WELL. */
    private static OddBridge never(int a, int b) {
        OddBridge x = Due.vow(Due.ofTimes(1), "0");
        x.say(0, a, b);
        return x;
    }

    private static OddBridge allSay(int walkers, String text) {
        OddBridge x = Due.vow(new OddBridge(), text);
        for (int i = 0; i < walkers; i++) {
            x.walker(0, 1, 0);
            x.say(i, 0, 62);
        }
        return x;
    }

    private static void asTheyCome() {
        OddBridge x = Due.ofTimes(1, 1);
        for (int i = 0; i < 8; i++) {
            Due.is("26: count(2) ahead of SAID " + i, x.count(2), i);
            Due.is("18: SAID " + i, x.say(i % 2, 0, 62), i);
        }
        Due.is("18: the ninth", x.say(0, 0, 62), -4);
        Due.is("26: count(2) behind the ninth", x.count(2), 8);
        int[][] told = {{0, 0, 0}, {1, 62, 62}, {0, 0, 62}, {1, 30, 31}};
        for (int[] said : told) {
            OddBridge y = Due.ofTimes(1, 1);
            y.say(said[0], said[1], said[2]);
            long h = 643;
            for (int v : new int[] {2, 0, 1, 0, 1, 0, 10, 0, 1, 0, 10, 0, 3, said[0], said[1], said[2], 0, 1}) {
                h = 31 * h + v;
            }
            Due.is("27: digest() of one SAID", y.digest(), h);
        }
    }

    private static void endsOfMinutes() {
        dispute("in minute 0 alone", never(0, 0), 0, 1);
        dispute("in minute 62 alone", never(62, 62), 0, 1L << 62);
        dispute("in all minutes", never(0, 62), 0, Long.MAX_VALUE);
        dispute("in minutes 31 to 32", never(31, 32), 0, 3L << 31);
        dispute("in minute 32 alone", never(32, 32), 0, 1L << 32);
        dispute("in minute 61 alone", never(61, 61), 0, 1L << 61);
        for (int minute = 0; minute < 63; minute++) {
            dispute("in minute " + minute, never(minute, minute), 0, 1L << minute);
        }
    }

    private static void fromMinuteToMinute() {
        OddBridge x = Due.ofTimes(1, 1);
        x.say(0, 10, 20);
        x.say(1, 20, 30);
        dispute("that touch in one minute", x, 0, 1L << 20);
        x.hush();
        x.say(0, 10, 20);
        x.say(1, 21, 30);
        dispute("that do not touch", x, 0, 0);
        x.hush();
        x.say(0, 0, 62);
        x.say(1, 1, 61);
        dispute("one within the other", x, 0, minutes(1, 61));
    }

    /** Who said it twice was on once, and in all minutes of either. */
    private static void ofAWalkerAllTogether() {
        OddBridge x = Due.ofTimes(1, 1);
        x.say(0, 5, 10);
        x.say(0, 5, 10);
        dispute("the same twice", x, 0, 0);
        lied("the same twice", x, 3, 0);
        x.say(0, 8, 15);
        x.say(0, 20, 25);
        x.say(1, 0, 62);
        dispute("overlapping and apart", x, 0, minutes(5, 15) | minutes(20, 25));
        dispute("but one of those that are alike", x, 1, minutes(5, 15) | minutes(20, 25));
        dispute("but both of them", x, 3, minutes(8, 15) | minutes(20, 25));
        dispute("but the other WALKER", x, 16, 0);
        lied("the other WALKER lied", x, 16, 16);
    }

    private static void nobodyOn() {
        OddBridge x = Due.vow(new OddBridge(), "0");
        dispute("of none, by 0", x, 0, 0);
        lied("of none, by 0", x, 0, 0);
        dispute("left out, by 0", never(0, 62), 1, 0);
        dispute("where nobody said it was on", never(3, 4), 0, minutes(3, 4));
    }

    private static void inThatMinute() {
        OddBridge x = allSay(1, "m<62");
        dispute("by m<62", x, 0, 1L << 62);
        dispute("by m>0", Due.vow(x, "m>0"), 0, 1);
        dispute("by m=62", Due.vow(x, "m=62"), 0, minutes(0, 61));
        dispute("by m", Due.vow(x, "m"), 0, 0x5555555555555555L);
        dispute("by p+m", Due.vow(x, "p+m"), 0, 0x2AAAAAAAAAAAAAAAL);
        dispute("by a FAULT", Due.vow(x, "m<"), 0, 0);
        dispute("erased", Due.vow(x, ""), 0, 0);
    }

    private static void butASet() {
        OddBridge x = allSay(8, "");
        for (int but = 0; but < 256; but++) {
            boolean even = Integer.bitCount(but) % 2 == 0 && but != 255;
            dispute("of eight", x, but, even ? Long.MAX_VALUE : 0);
        }
        Due.is("26: count(2), nothing is left out for good", x.count(2), 8);
    }

    private static void without() {
        lied("of eight, each of whom is one too many", allSay(8, ""), 255, 1);
        lied("of seven, who are odd", allSay(7, ""), 0, 0);
        lied("of one who is WELL and of none", allSay(1, ""), 1, 0);
        lied("of eight by 1", allSay(8, "1"), 255, 0);
        lied("of one by 0", allSay(1, "0"), 1, 1);
        lied("of two by 0", allSay(2, "0"), 0, 3);
        OddBridge last = allSay(7, "");
        last.walker(0, 1, 0);
        last.say(7, 62, 62);
        lied("of the last, in the last minute", last, 128, 128);
        OddBridge first = Due.ofTimes(1, 1);
        first.say(0, 0, 0);
        first.say(1, 0, 62);
        lied("of either, in the first minute", first, 3, 1);
    }

    private static void liars() {
        lied("of eight by 0", allSay(8, "0"), 0, 255);
        lied("of eight by p=1", allSay(8, "p=1"), 0, 127);
        lied("of eight by p=7", allSay(8, "p=7"), 255, 1);
        lied("of eight by p=9", allSay(8, "p=9"), 0, 255);
        lied("of eight by p=8", allSay(8, "p=8"), 0, 0);
        OddBridge x = Due.vow(Due.ofKinds(0, 0, 0, 0, 0, 0, 0, 5), "p=0&m=m");
        for (int i = 0; i < 8; i++) {
            x.say(i, i, i + 1);
        }
        lied("but the PRIEST", x, 0, 127);
    }

    private static void liarsOfLikeNumber() {
        lied("of four by p=2", allSay(4, "p=2"), 0, 3);
        lied("of five by p=2", allSay(5, "p=2"), 0, 7);
        OddBridge x = Due.vow(Due.ofKinds(1, 0, 0, 1), "u=1&p=2");
        for (int i = 0; i < 4; i++) {
            x.say(i, 9, 9);
        }
        lied("one of each", x, 0, 3);
        OddBridge y = Due.vow(Due.ofKinds(1, 1, 0, 0), "u=1&p=2");
        for (int i = 0; i < 4; i++) {
            y.say(i, 9, 9);
        }
        lied("one of each, who come apart", y, 0, 5);
        OddBridge fewer = Due.vow(Due.ofKinds(0, 0, 2), "p=2&b=0|p=1");
        for (int i = 0; i < 3; i++) {
            fewer.say(i, 9, 9);
        }
        dispute("the HERD alone", fewer, 3, 0);
        dispute("all but the HERD", fewer, 4, 0);
        lied("the HERD, not the two with the lesser bits", fewer, 4, 4);
    }

    private static void hushed() {
        OddBridge x = allSay(8, "0");
        Due.is("19: hush() of eight", x.hush(), 8);
        Due.is("19: hush() of none", x.hush(), 0);
        dispute("of the hushed", x, 0, 0);
        lied("of the hushed", x, 0, 0);
        Due.is("20: dispute(1) of the hushed", x.dispute(1), -2);
        Due.is("18: SAID 0 again", x.say(7, 62, 62), 0);
        dispute("of what was said again", x, 0, 1L << 62);
        Due.is("19: hush() of one", x.hush(), 1);
    }

    /** What was SAID and THE FEAST know nothing of each other. */
    private static void theFeastIsAnother() {
        OddBridge x = Due.ofTimes(5, 5);
        x.put(0, 2);
        Due.is("9: on(2) with a WALL", x.on(2), 3);
        x.say(0, 0, 62);
        x.say(1, 2, 3);
        Due.is("9: on(2), whatever was said", x.on(2), 3);
        dispute("without a WALL", x, 0, minutes(2, 3));
        x.hush();
        dispute("of nothing said, though they are on", x, 0, 0);
    }
}
