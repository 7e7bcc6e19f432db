/** Promises 23, 24, 25, 27: IMAGES, STATUS and the digest. */
public final class ImagesTest {
    private ImagesTest() { }

    public static void main(String[] args) {
        whatIsKept();
        whatIsNotKept();
        imagesForThemselves();
        status();
        digest();
        Due.end("ImagesTest");
    }

    private static OddBridge full() {
        OddBridge x = new OddBridge();
        x.walker(1, 2, 3);
        x.walker(4, 5, 6);
        x.doubt(1, 7);
        x.put(0, 8);
        x.put(1, 9);
        Due.vow(x, "p+ u");
        x.say(1, 10, 11);
        x.say(0, 12, 13);
        return x;
    }

    private static void whatIsKept() {
        OddBridge x = full();
        long digest = x.digest();
        Due.is("23: image(1)", x.image(1), 1);
        x.walker(2, 2, 2);
        x.doubt(0, 5);
        x.doubt(1, 5);
        x.put(0, 1);
        x.put(1, 1);
        Due.vow(x, "d");
        x.hush();
        x.say(0, 0, 0);
        Due.is("24: from(1)", x.from(1), 1);
        Due.is("24: digest()", x.digest(), digest);
        Due.is("24: count(0)", x.count(0), 2);
        Due.is("24: doubt(1, 7)", x.doubt(1, 7), 7);
        Due.is("24: well(1, 0) by the vow of the image", x.well(1, 0), 0);
        Due.is("24: fault()", x.fault(), -1);
        overwritten();
        Due.bad(x, "23: image(2)", () -> x.image(2));
        Due.bad(x, "23: image(-1)", () -> x.image(-1));
        Due.bad(x, "24: from(2)", () -> x.from(2));
        Due.bad(x, "24: from(-1)", () -> x.from(-1));
        Due.no(x, "24: from(0)", () -> x.from(0));
    }

    /** The image comes back whole, where its places held others meanwhile. */
    private static void overwritten() {
        OddBridge x = new OddBridge();
        x.image(0);
        x.walker(1, 2, 3);
        x.say(0, 4, 5);
        x.write('p');
        x.image(1);
        long digest = x.digest();
        x.from(0);
        x.walker(6, 7, 8);
        x.say(0, 9, 10);
        x.write('m');
        x.from(1);
        Due.is("24: digest() of the other image", x.digest(), digest);
        Due.is("24: brings(1, 2)", x.brings(1, 2), 1);
        Due.is("24: stepped(0, 1)", x.stepped(0, 1), 5);
    }

    private static void whatIsNotKept() {
        OddBridge x = full();
        x.image(0);
        x.odd(3);
        Due.is("24: part(0)", x.part(0), 3);
        x.on(-1);
        x.from(1);
        x.from(0);
        Due.is("24: THE FRACTION stays", x.part(0), 3);
        Due.is("24: THE FRACTION stays", x.part(1), 10);
        Due.is("24: STATUS stays", x.status(0), 1);
        Due.is("24: STATUS stays", x.status(1), 1);
    }

    private static void imagesForThemselves() {
        OddBridge x = new OddBridge();
        x.image(0);
        x.walker(0, 1, 0);
        x.image(1);
        x.from(0);
        Due.is("24: image 0", x.count(0), 0);
        x.walker(0, 1, 0);
        x.walker(0, 1, 0);
        x.from(0);
        Due.is("24: image 0 is still as it was", x.count(0), 0);
        x.from(1);
        Due.is("24: image 1", x.count(0), 1);
        x.walker(0, 1, 0);
        x.image(0);
        x.from(1);
        x.from(0);
        Due.is("24: image 0 is another", x.count(0), 2);
    }

    private static void status() {
        OddBridge x = new OddBridge();
        x.walker(8, 0, 0);
        x.row(-1);
        Due.is("25: status(0)", x.status(0), 2);
        Due.refused(x, "25: status(3)", () -> x.status(3), -1, 0);
        Due.refused(x, "25: status(-1)", () -> x.status(-1), -1, 0);
        x.from(0);
        Due.is("25: status(1)", x.status(1), 1);
        for (int i = 0; i < 10; i++) {
            x.walker(0, 1, 0);
        }
        Due.is("25: status(2)", x.status(2), 2);
        Due.is("25: status(0)", x.status(0), 4);
    }

    private static void digest() {
        OddBridge x = full();
        x.odd(2);
        long h = 643;
        for (int v : new int[] {2, 4, 2, 1, 2, 3, 10, 4, 5, 6, 7, 8, 9, 'p', '+', ' ', 'u', 1, 10, 11, 0, 12, 13, 7, 10}) {
            h = 31 * h + v;
        }
        Due.is("27: digest()", x.digest(), h);
        Due.is("27: digest() again", x.digest(), h);
    }
}
