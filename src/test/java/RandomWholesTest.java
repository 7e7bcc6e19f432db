import java.util.Random;

/** Small bridges drawn from a fixed seed, asked for the whole of their feast, companies and dispute, against Model. */
public final class RandomWholesTest {
    private static final int BRIDGES = 3000;
    private static final String[] VOWS = {
        "", "p=1", "p=2", "p=3", "p<3", "p>1", "p=2|p=4", "b+p", "p+u*d", "l", "d+u", "p=1|b", "!(p=2)", "p/2", "p/3+l",
        "p+m", "p*m", "m/3", "m/5+p", "p+b*(m>9)", "(p<3)&(m<40)", "p=m/2", "m-p", "p<m/4", "p+m/7*u", "p=2|m/9", "0", "1",
    };

    private final Random random;
    private final String name;
    private final OddBridge x = new OddBridge();
    private final Model m = new Model();

    private RandomWholesTest(int bridge) {
        random = new Random(1000 + bridge);
        name = "bridge " + bridge + ": ";
    }

    public static void main(String[] args) {
        for (int bridge = 0; bridge < BRIDGES; bridge++) {
            RandomWholesTest test = new RandomWholesTest(bridge);
            test.build();
            test.companies();
            test.feast(1);
            test.dispute();
            test.again();
        }
        Due.end("RandomWholesTest");
    }

    private void due(String call, long got, long want) {
        Due.is(name + call, got, want);
    }

    private void build() {
        int walkers = random.nextInt(9);
        int longest = random.nextBoolean() ? 20 : 4;
        int latest = random.nextBoolean() ? 6 : 100;
        boolean plain = random.nextInt(3) == 0;
        for (int i = 0; i < walkers; i++) {
            int kind = plain ? 0 : random.nextInt(8);
            int time = 1 + random.nextInt(longest);
            int comes = random.nextInt(latest);
            due("walker", x.walker(kind, time, comes), m.walker(kind, time, comes));
        }
        for (char c : VOWS[random.nextInt(VOWS.length)].toCharArray()) {
            due("write", x.write(c), m.write(c));
        }
        int price = random.nextInt(4) == 0 ? random.nextInt(100) : random.nextInt(3);
        due("put(1)", x.put(1, price), m.put(1, price));
        int wall = random.nextBoolean() ? 0 : 1 + random.nextInt(random.nextBoolean() ? 4 : 19);
        due("put(0)", x.put(0, wall), m.put(0, wall));
        for (int i = 0; i < random.nextInt(9); i++) {
            int walker = walkers == 0 ? 0 : random.nextInt(walkers);
            int a = random.nextInt(63);
            int b = Math.min(62, a + random.nextInt(30));
            due("say", x.say(walker, a, b), m.say(walker, a, b));
        }
    }

    private void companies() {
        for (int what = 0; what < 4; what++) {
            due("least(" + what + ")", x.least(what), m.least(what));
        }
        for (int i = 0; i < 9; i++) {
            due("row(" + i + ")", x.row(i), m.row(i));
        }
        int e = random.nextInt(21);
        int n = random.nextInt(4);
        due("toll(" + e + ", " + n + ")", x.toll(e, n), m.toll(e, n));
        due("part(0)", x.part(0), m.part(0));
        due("part(1)", x.part(1), m.part(1));
    }

    private void feast(int every) {
        for (int what = 0; what < 2; what++) {
            due("faulty(" + what + ")", x.faulty(what), m.faulty(what));
            for (int i = 0; i < 8; i++) {
                due("stepped(" + i + ", " + what + ")", x.stepped(i, what), m.stepped(i, what));
            }
        }
        for (int minute = 0; minute < 200; minute += every) {
            due("on(" + minute + ")", x.on(minute), m.on(minute));
        }
    }

    private void dispute() {
        for (int i = 0; i < 3; i++) {
            int but = random.nextInt(1 << m.count(2));
            due("dispute(" + but + ")", x.dispute(but), m.dispute(but));
        }
        due("lied(0)", x.lied(0), m.lied(0));
        due("lied(1)", x.lied(1), m.lied(1));
    }

    /** The same walkers by another vow: nothing of what was worked before may be left. */
    private void again() {
        due("erase", x.erase(), m.erase());
        for (char c : VOWS[random.nextInt(VOWS.length)].toCharArray()) {
            due("write", x.write(c), m.write(c));
        }
        feast(2);
        companies();
        due("digest()", x.digest(), m.digest());
    }
}
