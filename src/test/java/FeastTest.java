/** Promises 9, 10, 11: THE FEAST. */
public final class FeastTest {
    private FeastTest() { }

    public static void main(String[] args) {
        evenFaces();
        askedFirst();
        theMostThenTheLeast();
        whoDoesNotStepAgain();
        wall();
        faultyMinutes();
        whatChanges();
        wrongNumbers();
        Due.end("FeastTest");
    }

    private static void on(OddBridge x, int first, int... due) {
        for (int i = 0; i < due.length; i++) {
            Due.is("9: on(" + (first + i) + ")", x.on(first + i), due[i]);
        }
    }

    /** Two plain ones: the first goes alone; the other waits, and then one steps on as one steps off. */
    private static void evenFaces() {
        OddBridge x = Due.ofTimes(3, 2);
        on(x, 0, 1, 1, 1, 2, 2, 0, 0);
        Due.is("10: stepped(0, 0)", x.stepped(0, 0), 0);
        Due.is("10: stepped(0, 1)", x.stepped(0, 1), 3);
        Due.is("10: stepped(1, 0)", x.stepped(1, 0), 3);
        Due.is("10: stepped(1, 1)", x.stepped(1, 1), 5);
        Due.is("11: faulty(0)", x.faulty(0), 0);
        Due.is("11: faulty(1)", x.faulty(1), -1);
    }

    private static void theMostThenTheLeast() {
        OddBridge x = Due.ofTimes(5, 5, 5, 5);
        on(x, 0, 7, 7, 7, 7, 7, 8);
        Due.is("10: stepped(3, 0)", x.stepped(3, 0), 5);
        OddBridge y = Due.vow(Due.ofTimes(5, 5, 5, 5), "p=2");
        on(y, 0, 3, 3, 3, 3, 3, 12, 12, 12, 12, 12, 0);
        Due.is("10: stepped(2, 0)", y.stepped(2, 0), 5);
        Due.is("10: stepped(2, 1)", y.stepped(2, 1), 10);
    }

    private static void whoDoesNotStepAgain() {
        OddBridge x = new OddBridge();
        x.walker(0, 20, 99);
        x.walker(0, 1, 98);
        on(x, 97, 0, 2, 1);
        on(x, 118, 1, 0);
        on(x, 199, 0);
        Due.is("10: stepped(0, 0)", x.stepped(0, 0), 99);
        Due.is("10: stepped(0, 1)", x.stepped(0, 1), 119);
        Due.vow(x, "m<110");
        Due.is("10: off though it was not WELL on", x.stepped(0, 1), 119);
        Due.vow(x, "p=3");
        Due.is("10: not on by 199 is NONE", x.stepped(0, 0), -1);
        Due.is("10: not off by 199 is NONE", x.stepped(0, 1), -1);
        OddBridge late = Due.vow(Due.ofTimes(1), "m=199");
        Due.is("9: on(198)", late.on(198), 0);
        Due.is("9: on(199)", late.on(199), 1);
        Due.is("10: stepped(0, 0)", late.stepped(0, 0), 199);
        Due.is("10: stepped(0, 1)", late.stepped(0, 1), -1);
        late.erase();
        Due.is("9: on(1) of another vow, as if nobody had been on", late.on(1), 0);
        Due.is("9: on(0) of another vow", late.on(0), 1);
    }

    private static void askedFirst() {
        Due.is("10: stepped(1, 1), asked first", Due.ofTimes(3, 2).stepped(1, 1), 5);
        Due.is("11: faulty(0), asked first", Due.vow(Due.ofTimes(20), "m<1").faulty(0), 19);
        Due.is("11: faulty(1), asked first of a new object", new OddBridge().faulty(1), -1);
    }

    /** Each side of the wall is looked at for itself; who is on goes from one to the other without a step. */
    private static void wall() {
        OddBridge x = Due.ofTimes(4, 4);
        x.put(0, 2);
        on(x, 0, 1, 1, 3, 3, 2, 2, 0);
        Due.is("11: faulty(0)", x.faulty(0), 0);
        OddBridge y = new OddBridge();
        y.walker(0, 3, 0);
        y.walker(0, 5, 0);
        y.walker(0, 2, 1);
        y.put(0, 1);
        on(y, 0, 1, 3, 3, 6, 6, 2, 0);
        Due.is("11: faulty(0)", y.faulty(0), 2);
        Due.is("11: faulty(1)", y.faulty(1), 2);
        y.put(0, 19);
        on(y, 0, 1, 7, 7, 2, 2, 2, 0);
    }

    private static void faultyMinutes() {
        OddBridge x = Due.vow(Due.ofTimes(4), "m/2-1");
        on(x, 0, 1, 1, 1, 1, 0);
        Due.is("11: faulty(0)", x.faulty(0), 2);
        Due.is("11: faulty(1)", x.faulty(1), 2);
        OddBridge never = Due.vow(Due.ofTimes(20), "m<1");
        on(never, 19, 1, 0, 0);
        Due.is("11: faulty(0)", never.faulty(0), 19);
        Due.is("11: faulty(1)", never.faulty(1), 1);
        OddBridge zero = Due.vow(Due.ofTimes(1, 2, 3), "0");
        on(zero, 0, 0, 0);
        Due.is("11: the empty bridge is well", zero.faulty(0), 0);
        Due.is("11: faulty(1)", zero.faulty(1), -1);
    }

    private static void whatChanges() {
        OddBridge x = Due.ofTimes(3);
        Due.is("9: on(0)", x.on(0), 1);
        x.walker(0, 1, 0);
        x.walker(0, 1, 0);
        Due.is("9: on(0) with two more", x.on(0), 7);
        x.image(0);
        Due.vow(x, "p+p");
        Due.is("9: on(0) by p+p", x.on(0), 0);
        x.write('+');
        Due.is("9: on(0) by a faulty vow", x.on(0), 7);
        x.erase();
        x.write('0');
        Due.is("9: on(0) by 0", x.on(0), 0);
        x.from(0);
        Due.is("9: on(0) of the image", x.on(0), 7);
        x.put(0, 1);
        Due.is("9: on(1) with a wall", x.on(1), 1);
        Due.is("10: stepped(1, 1)", x.stepped(1, 1), 1);
    }

    private static void wrongNumbers() {
        OddBridge x = Due.ofTimes(1, 1);
        Due.bad(x, "9: on(-1)", () -> x.on(-1));
        Due.bad(x, "9: on(200)", () -> x.on(200));
        Due.bad(x, "9: on(MIN)", () -> x.on(Integer.MIN_VALUE));
        Due.bad(x, "10: stepped(2, 0)", () -> x.stepped(2, 0));
        Due.bad(x, "10: stepped(-1, 0)", () -> x.stepped(-1, 0));
        Due.bad(x, "10: stepped(0, 2)", () -> x.stepped(0, 2));
        Due.bad(x, "10: stepped(0, -1)", () -> x.stepped(0, -1));
        Due.bad(x, "11: faulty(2)", () -> x.faulty(2));
        Due.bad(x, "11: faulty(-1)", () -> x.faulty(-1));
    }
}
