import java.util.ArrayList;
import java.util.List;

/** What the boundary tests share: a refused call held against a twin that was not asked it, and the ends of a range. */
final class Edge {
    interface Setup {
        OddBridge make();
    }

    interface Call {
        long on(OddBridge x);
    }

    interface NumberCall {
        long on(OddBridge x, int v);
    }

    private Edge() { }

    /** Eight walkers of all kinds, both images, all that can be put, said, doubted and written; it was asked much. */
    static OddBridge full() {
        OddBridge x = new OddBridge();
        x.walker(2, 9, 1);
        x.image(1);
        for (int kind = 1; kind < 8; kind++) {
            x.walker(kind, 3 * kind - 2, 2 * kind);
        }
        x.put(0, 4);
        x.put(1, 5);
        x.doubt(0, 7);
        x.doubt(7, 2);
        Due.vow(x, "p+u+(m>20)                              ");
        for (int i = 0; i < 8; i++) {
            x.say(i / 2, 5 * i, 62 - 3 * i);
        }
        x.image(0);
        x.odd(129);
        askMuch(x);
        return x;
    }

    /** Three walkers, a little of all, one image. */
    static OddBridge some() {
        OddBridge x = Due.ofTimes(4, 2, 7);
        Due.vow(x, "p+m/9");
        x.put(0, 2);
        x.say(1, 3, 9);
        x.say(2, 8, 30);
        x.image(0);
        x.doubt(1, 3);
        x.odd(2);
        askMuch(x);
        return x;
    }

    /** What the program could have remembered is asked once ahead of the call that is looked at. */
    private static void askMuch(OddBridge x) {
        x.on(199);
        x.least(0);
        x.lied(1);
        x.status(9);
        x.from(2);
    }

    /** All that an object can be asked, its images at the end; STATUS is not among it. */
    static List<Long> whole(OddBridge x) {
        List<Long> all = new ArrayList<>();
        int set = (1 << x.count(0)) - 1;
        for (int i = 0; i < 3; i++) {
            all.add((long) x.count(i));
        }
        all.add(x.digest());
        all.add((long) x.fault());
        all.add(x.part(0));
        all.add(x.part(1));
        for (int minute = 0; minute < 200; minute++) {
            all.add((long) x.on(minute));
        }
        for (int walker = 0; walker < x.count(0); walker++) {
            all.add((long) x.stepped(walker, 0));
            all.add((long) x.stepped(walker, 1));
        }
        for (int what = 0; what < 5; what++) {
            all.add((long) x.brings(set, what));
            all.add((long) (what < 4 ? x.least(what) : x.faulty(0)));
        }
        for (int i = 0; i < 8; i++) {
            all.add((long) x.row(i));
        }
        all.add((long) x.well(set, 0));
        all.add((long) x.well(set, 199));
        all.add(x.dispute(0));
        all.add((long) x.lied(0));
        all.add((long) x.lied(1));
        for (int i = 0; i < 2; i++) {
            all.add((long) x.from(i));
            all.add(x.digest());
            all.add((long) x.on(9));
        }
        return all;
    }

    /** The call answers so, the one STATUS counts it (3: none does), and all else is as with the twin. */
    static void refused(String name, Setup setup, Call call, long answer, int status) {
        OddBridge asked = setup.make();
        OddBridge twin = setup.make();
        Due.is(name, call.on(asked), answer);
        for (int i = 0; i < 3; i++) {
            Due.is("status(" + i + ") behind " + name, asked.status(i), twin.status(i) + (i == status ? 1 : 0));
        }
        Due.is("all is as ahead of " + name, whole(asked).equals(whole(twin)) ? 1 : 0, 1);
    }

    static void bad(String name, Setup setup, Call call) {
        refused(name, setup, call, -2, 0);
    }

    static void no(String name, Setup setup, Call call) {
        refused(name, setup, call, -3, 1);
    }

    static void full(String name, Setup setup, Call call) {
        refused(name, setup, call, -4, 2);
    }

    /** It only asks: whatever the answer is, nothing is counted and nothing has changed. */
    static void onlyAsks(String name, Setup setup, Call call, long answer) {
        refused(name, setup, call, answer, 3);
    }

    static void taken(String name, Setup setup, Call call) {
        OddBridge asked = setup.make();
        OddBridge twin = setup.make();
        long answer = call.on(asked);
        Due.is(name + " is taken, it answered " + answer, answer == -2 || answer == -10 ? 1 : 0, 0);
        for (int i = 0; i < 3; i++) {
            Due.is("status(" + i + ") behind " + name, asked.status(i), twin.status(i));
        }
    }

    /** The ends of what is as told are taken; what is next to them outside, and the ends of int, is BAD. */
    static void range(String name, Setup setup, NumberCall call, int least, int most) {
        taken(name + " with " + least, setup, x -> call.on(x, least));
        taken(name + " with " + most, setup, x -> call.on(x, most));
        for (int v : new int[] {least - 1, most + 1, Integer.MIN_VALUE, Integer.MAX_VALUE}) {
            bad(name + " with " + v, setup, x -> call.on(x, v));
        }
    }
}
