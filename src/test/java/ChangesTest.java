/** What was asked ahead of a change leaves nothing behind: the same change on one that was not asked answers alike. */
public final class ChangesTest {
    private interface Change {
        void on(OddBridge x);
    }

    private ChangesTest() { }

    public static void main(String[] args) {
        for (int c = 0; c < CHANGES.length; c++) {
            for (int second = 0; second < CHANGES.length; second++) {
                alike(c, second);
            }
        }
        Due.end("ChangesTest");
    }

    private static final Change[] CHANGES = {
        x -> x.walker(2, 3, 1),
        x -> x.put(0, 1),
        x -> x.put(1, 44),
        x -> x.write('+'),
        x -> x.write('m'),
        x -> x.erase(),
        x -> x.write('p'),
        x -> x.write('0'),
        x -> x.doubt(0, 1),
        x -> x.say(0, 2, 30),
        x -> x.hush(),
        x -> x.image(0),
        x -> x.image(1),
        x -> x.from(0),
        x -> x.from(1),
    };

    private static OddBridge start() {
        OddBridge x = Due.ofKinds(0, 1, 5);
        x.image(1);
        x.walker(0, 9, 0);
        x.say(3, 0, 40);
        x.say(1, 20, 62);
        x.write('m');
        x.put(0, 3);
        return x;
    }

    private static void askAll(OddBridge x) {
        x.on(0);
        x.stepped(0, 0);
        x.faulty(0);
        x.least(0);
        x.row(0);
        x.dispute(0);
        x.lied(1);
        for (int minute = 0; minute < 200; minute += 33) {
            x.well(7, minute);
            x.well(1, minute);
        }
    }

    private static void alike(int first, int second) {
        OddBridge asked = start();
        OddBridge silent = start();
        askAll(asked);
        CHANGES[first].on(asked);
        CHANGES[first].on(silent);
        askAll(asked);
        CHANGES[second].on(asked);
        CHANGES[second].on(silent);
        boolean same = Edge.whole(asked).equals(Edge.whole(silent));
        Due.is("whatever was asked ahead of changes " + first + " and " + second, same ? 1 : 0, 1);
    }
}
