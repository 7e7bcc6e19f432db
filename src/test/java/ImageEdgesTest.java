/** Promises 22 to 25 and 27 at the edges: empty and full IMAGES, what they keep and what not, STATUS and the digest. */
public final class ImageEdgesTest {
    private interface Change {
        void on(OddBridge x);
    }

    private ImageEdgesTest() { }

    public static void main(String[] args) {
        imagesOfNothing();
        imagesOfAllThereIs();
        overwrittenMeanwhile();
        eachThingIsKept();
        neitherIsInTheOther();
        fractionAndStatusAreNot();
        goingOn();
        statusByReason();
        digests();
        Due.end("ImageEdgesTest");
    }

    private static void same(String of, OddBridge x, OddBridge y) {
        Due.is(of, Edge.whole(x).equals(Edge.whole(y)) ? 1 : 0, 1);
    }

    private static void imagesOfNothing() {
        for (int i = 0; i < 2; i++) {
            OddBridge x = new OddBridge();
            Due.is("24: from(" + i + ") ahead of an image", x.from(i), -3);
            Due.is("23: image(" + i + ") of nothing", x.image(i), 1);
            Due.is("24: the other one was not kept", x.from(1 - i), -3);
            for (int w = 0; w < 8; w++) {
                x.walker(w, 20, 0);
                x.say(w, 0, w);
            }
            Due.vow(x, "(m|0)                                  ");
            x.put(0, 19);
            x.put(1, 99);
            Due.is("24: from(" + i + ") of nothing", x.from(i), 1);
            Due.is("25: status(1)", x.status(1), 2);
            x.image(0);
            x.image(1);
            OddBridge y = new OddBridge();
            y.image(0);
            y.image(1);
            same("24: all is as with a new object", x, y);
        }
    }

    /** It goes on from a full one: still full, to the last of each. */
    private static void imagesOfAllThereIs() {
        OddBridge x = Edge.full();
        OddBridge twin = Edge.full();
        x.from(1);
        Due.is("24: of one WALKER", x.count(0), 1);
        Due.is("24: without a VOW", x.count(1), 0);
        Due.is("24: with nothing SAID", x.count(2), 0);
        Due.is("24: from(0)", x.from(0), 1);
        Due.is("2: still full", x.walker(0, 1, 0), -4);
        Due.is("4: still full", x.write('p'), -4);
        Due.is("18: still full", x.say(0, 0, 0), -4);
        same("24: all is as ahead of it", x, twin);
    }

    /** All places of a full one held others meanwhile. */
    private static void overwrittenMeanwhile() {
        OddBridge x = Edge.full();
        OddBridge twin = Edge.full();
        x.from(1);
        for (int i = 0; i < 8; i++) {
            x.walker(0, 20, 88);
        }
        for (int i = 0; i < 8; i++) {
            x.doubt(i, 4);
            x.say(7 - i, 61, 61);
        }
        for (int i = 0; i < 40; i++) {
            x.write('x');
        }
        x.on(0);
        x.least(0);
        x.from(0);
        same("24: a full one comes back whole", x, twin);
    }

    private static void eachThingIsKept() {
        Change[] changes = {
            x -> x.walker(7, 20, 99), x -> x.put(0, 19), x -> x.put(1, 99), x -> x.write('m'), x -> x.erase(),
            x -> x.doubt(0, 0), x -> x.doubt(2, 9), x -> x.say(2, 62, 62), x -> x.hush(),
            x -> {
                x.erase();
                x.write('0');
            },
            x -> {
                x.hush();
                x.say(0, 0, 0);
                x.say(0, 1, 1);
            },
        };
        for (int c = 0; c < changes.length; c++) {
            for (int i = 0; i < 2; i++) {
                OddBridge x = Edge.some();
                OddBridge twin = Edge.some();
                x.image(i);
                twin.image(i);
                changes[c].on(x);
                x.on(50);
                x.least(0);
                Due.is("change " + c + " changes something", x.digest() == twin.digest() ? 1 : 0, 0);
                x.from(i);
                same("24: change " + c + " is undone by from(" + i + ")", x, twin);
            }
        }
    }

    private static void neitherIsInTheOther() {
        OddBridge x = new OddBridge();
        x.image(0);
        x.walker(0, 1, 0);
        x.image(1);
        x.walker(0, 1, 0);
        Due.is("24: from(0)", x.from(0), 1);
        Due.is("26: count(0) of image 0", x.count(0), 0);
        Due.is("24: from(1), kept behind image 0", x.from(1), 1);
        Due.is("26: count(0) of image 1", x.count(0), 1);
        Due.is("24: from(1) again", x.from(1), 1);
        Due.is("26: count(0) of image 1 again", x.count(0), 1);
        x.walker(0, 1, 0);
        x.walker(0, 1, 0);
        x.image(1);
        x.from(0);
        Due.is("26: count(0), image 0 is as it was", x.count(0), 0);
        x.from(1);
        Due.is("26: count(0), image 1 was kept anew", x.count(0), 3);
    }

    private static void fractionAndStatusAreNot() {
        OddBridge x = Due.ofTimes(1);
        x.doubt(0, 3);
        x.odd(1);
        x.image(0);
        x.image(1);
        x.doubt(0, 7);
        x.odd(1);
        x.put(2, 2);
        x.image(2);
        x.from(0);
        Due.is("22: part(0) is no part of an image", x.part(0), 7);
        Due.is("22: part(1) is no part of an image", x.part(1), 10);
        Due.is("25: status(0) is no part of an image", x.status(0), 2);
        Due.is("15: DOUBTED is", x.doubt(0, 3), 3);
    }

    /** Behind from() there is as much room as there was, and the next WALKER is as told. */
    private static void goingOn() {
        OddBridge x = new OddBridge();
        x.image(0);
        for (int w = 0; w < 8; w++) {
            x.walker(0, 1, 0);
            x.doubt(w, 1);
            x.say(w, 0, 0);
        }
        x.from(0);
        for (int w = 0; w < 8; w++) {
            Due.is("2: WALKER " + w + " once more", x.walker(2, 1, 0), w);
            Due.is("15: DOUBTED at first", x.doubt(w, 10), 10);
            Due.is("18: SAID " + w + " once more", x.say(w, 0, 0), w);
        }
        for (int i = 0; i < 40; i++) {
            Due.is("4: write once more", x.write('1'), i + 1);
        }
        Due.is("2: full once more", x.walker(0, 1, 0), -4);
        Due.is("4: full once more", x.write('1'), -4);
        Due.is("18: full once more", x.say(0, 0, 0), -4);
        Due.is("25: status(2)", x.status(2), 3);
    }

    private static void statusByReason() {
        OddBridge x = new OddBridge();
        for (int what = 0; what < 3; what++) {
            Due.is("25: status(" + what + ") at first", x.status(what), 0);
        }
        Due.is("13: row(-1)", x.row(-1), -10);
        Due.is("25: -10 counts as BAD", x.status(0), 1);
        Due.is("25: status(3)", x.status(3), -1);
        Due.is("25: -1 counts as BAD", x.status(0), 2);
        Due.is("25: status(-1)", x.status(-1), -1);
        Due.is("25: -1 counts as BAD again", x.status(0), 3);
        Due.is("24: from(0)", x.from(0), -3);
        Due.is("25: status(1)", x.status(1), 1);
        Due.is("25: status(0) is as it was", x.status(0), 3);
        Due.is("25: status(2) is as it was", x.status(2), 0);
        Due.is("13: row(0)", x.row(0), -5);
        Due.is("12: least(0)", x.least(0), 0);
        Due.is("25: -5 counts as nothing", x.status(0) + x.status(1) + x.status(2), 4);
    }

    private static long digestOf(long... all) {
        long h = 643;
        for (long v : all) {
            h = 31 * h + v;
        }
        return h;
    }

    private static void digests() {
        Due.is("27: of nothing", new OddBridge().digest(), digestOf(0, 0, 0, 0, 3, 0, 1));
        OddBridge text = new OddBridge();
        text.write(0);
        text.write(127);
        Due.is("27: of characters 0 and 127", text.digest(), digestOf(0, 2, 0, 0, 3, 0, 127, 0, 1));
        OddBridge x = new OddBridge();
        long[] due = new long[3 + 32 + 2 + 40 + 24 + 2];
        int at = 3;
        due[0] = 8;
        due[1] = 40;
        due[2] = 8;
        for (int i = 0; i < 8; i++) {
            x.walker(i == 0 ? 0 : 7, 20 - i, 99 - i);
            x.doubt(i, i);
            x.say(i, i, 62 - i);
            due[at++] = i == 0 ? 0 : 7;
            due[at++] = 20 - i;
            due[at++] = 99 - i;
            due[at++] = i;
        }
        x.put(0, 19);
        x.put(1, 99);
        due[at++] = 19;
        due[at++] = 99;
        for (int i = 0; i < 40; i++) {
            x.write(127 - i);
            due[at++] = 127 - i;
        }
        for (int i = 0; i < 8; i++) {
            due[at++] = i;
            due[at++] = i;
            due[at++] = 62 - i;
        }
        x.odd(2);
        due[at++] = 1;
        due[at++] = 10;
        Due.is("27: of all there can be", x.digest(), digestOf(due));
        Due.is("27: told all", at, due.length);
        wideFraction();
    }

    /** THE FRACTION's parts go in as longs, not cut to ints. */
    private static void wideFraction() {
        OddBridge x = Due.vow(Due.ofTimes(1, 1, 1, 1, 1, 1, 1, 1), "p=1");
        x.toll(1, 7);
        long[] due = new long[3 + 32 + 2 + 3 + 2];
        due[0] = 8;
        due[1] = 3;
        for (int i = 0; i < 8; i++) {
            due[4 + 4 * i] = 1;
            due[6 + 4 * i] = 10;
        }
        due[36] = 3;
        due[37] = 'p';
        due[38] = '=';
        due[39] = '1';
        due[40] = 25599999999L;
        due[41] = 25600000000L;
        Due.is("27: of a wide FRACTION", x.digest(), digestOf(due));
    }
}
