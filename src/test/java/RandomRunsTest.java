import java.util.Random;

/** Runs of 512 calls each, drawn from a fixed seed, in which the program and the slow Model must answer alike. */
public final class RandomRunsTest {
    private static final int RUNS = 240, CALLS = 512;
    private static final int[] WILD = {Integer.MIN_VALUE, Integer.MAX_VALUE, -1, -2, 256, 1 << 16, 1 << 31, -256, 1000};

    private final Random random;
    private final int run;
    private final OddBridge x = new OddBridge();
    private final Model m = new Model();
    private int calls = 0;

    private RandomRunsTest(int run) {
        this.run = run;
        random = new Random(643 + run);
    }

    public static void main(String[] args) {
        for (int run = 0; run < RUNS; run++) {
            new RandomRunsTest(run).go();
        }
        Due.end("RandomRunsTest");
    }

    /** Mostly within the bounds told, at times just or far outside. */
    private int number(int from, int to) {
        int draw = random.nextInt(120);
        if (draw == 0) return WILD[random.nextInt(WILD.length)];
        if (draw == 1) return from - 1;
        if (draw == 2) return to + 1;
        if (draw < 12) return random.nextBoolean() ? from : to;
        return from + random.nextInt(to - from + 1);
    }

    private void due(String call, long got, long want) {
        Due.is("run " + run + ", call " + calls + ": " + call, got, want);
        calls++;
    }

    private String text(int depth) {
        String blank = random.nextInt(8) == 0 ? " " : "";
        switch (depth > 3 ? random.nextInt(3) : random.nextInt(9)) {
            case 0: return blank + random.nextInt(random.nextBoolean() ? 10 : 1000000);
            case 1: case 2: return blank + "pbudlmp".charAt(random.nextInt(7));
            case 3: return "(" + text(depth + 1) + blank + ")";
            case 4: return "!" + text(depth + 1);
            case 5: return "-" + blank + text(depth + 1);
            default: return text(depth + 1) + blank + "|&<>=+-*/+-*/".charAt(random.nextInt(13)) + text(depth + 1);
        }
    }

    private void newVow() {
        due("erase()", x.erase(), m.erase());
        String text = text(0);
        if (random.nextInt(4) == 0) text = "((((((((".substring(random.nextInt(8)) + text + "))))))))";
        if (random.nextInt(4) == 0) {
            int cut = random.nextInt(text.length() + 1);
            text = text.substring(0, cut) + (char) (32 + random.nextInt(96)) + text.substring(cut);
        }
        for (int i = 0; i < text.length() && i < 42; i++) {
            int c = text.charAt(i);
            due("write(" + c + ")", x.write(c), m.write(c));
            if (random.nextInt(6) == 0) due("fault()", x.fault(), m.fault());
        }
        due("fault()", x.fault(), m.fault());
    }

    private void go() {
        int lazy = random.nextInt(3);
        while (calls < CALLS - 50) {
            if (random.nextInt(60) == 0) newVow();
            if (random.nextInt(3) < lazy && calls > 20) continue;
            change();
            ask();
        }
        due("digest()", x.digest(), m.digest());
    }

    private void change() {
        int a = number(0, 7);
        int b = number(0, 62);
        int c = number(0, 62);
        int v;
        switch (random.nextInt(16)) {
            case 0: case 1: case 2:
                int time = number(1, 20);
                int comes = number(0, random.nextBoolean() ? 9 : 99);
                due("walker(" + a + "," + time + "," + comes + ")", x.walker(a, time, comes), m.walker(a, time, comes));
                break;
            case 3:
                v = number(0, 19);
                due("put(0," + v + ")", x.put(0, v), m.put(0, v));
                break;
            case 4:
                v = number(0, 99);
                due("put(" + (a > 1 ? 1 : a) + "," + v + ")", x.put(a > 1 ? 1 : a, v), m.put(a > 1 ? 1 : a, v));
                break;
            case 5:
                v = number(0, 10);
                due("doubt(" + a + "," + v + ")", x.doubt(a, v), m.doubt(a, v));
                break;
            case 6: case 7: case 8:
                due("say(" + a + "," + b + "," + c + ")", x.say(a, b, c), m.say(a, b, c));
                break;
            case 9:
                v = number(0, 1);
                due("image(" + v + ")", x.image(v), m.image(v));
                break;
            case 10:
                v = number(0, 1);
                due("from(" + v + ")", x.from(v), m.from(v));
                break;
            case 11:
                if (a > 3) due("hush()", x.hush(), m.hush());
                break;
            case 12:
                v = number(0, 127);
                if (a > 4) due("write(" + v + ")", x.write(v), m.write(v));
                break;
            default:
        }
    }

    private void ask() {
        int set = number(0, Math.max(0, (1 << m.count(0)) - 1));
        int but = number(0, Math.max(0, (1 << m.count(2)) - 1));
        int minute = number(0, 199);
        int walker = number(0, 7);
        int two = number(0, 1);
        switch (random.nextInt(19)) {
            case 0: due("brings(" + set + "," + walker + ")", x.brings(set, walker), m.brings(set, walker)); break;
            case 1: case 2: due("well(" + set + "," + minute + ")", x.well(set, minute), m.well(set, minute)); break;
            case 3: due("on(" + minute + ")", x.on(minute), m.on(minute)); break;
            case 4: due("on(" + minute / 6 + ")", x.on(minute / 6), m.on(minute / 6)); break;
            case 5: due("stepped(" + walker + "," + two + ")", x.stepped(walker, two), m.stepped(walker, two)); break;
            case 6: due("faulty(" + two + ")", x.faulty(two), m.faulty(two)); break;
            case 7: int what = number(0, 3); due("least(" + what + ")", x.least(what), m.least(what)); break;
            case 8: int i = number(0, 5); due("row(" + i + ")", x.row(i), m.row(i)); break;
            case 9:
                int e = number(0, 20);
                int n = number(0, 8);
                due("toll(" + e + "," + n + ")", x.toll(e, n), m.toll(e, n));
                break;
            case 10: due("odd(" + set + ")", x.odd(set), m.odd(set)); break;
            case 11:
                int out = number(1, 40);
                int room = number(1, 20);
                due("home(" + out + "," + room + "," + two + ")", x.home(out, room, two), m.home(out, room, two));
                break;
            case 12: case 13: due("dispute(" + but + ")", x.dispute(but), m.dispute(but)); break;
            case 14: due("lied(" + two + ")", x.lied(two), m.lied(two)); break;
            case 15: due("part(" + two + ")", x.part(two), m.part(two)); break;
            case 16: int sort = number(0, 2); due("status(" + sort + ")", x.status(sort), m.status(sort)); break;
            case 17: int sorts = number(0, 2); due("count(" + sorts + ")", x.count(sorts), m.count(sorts)); break;
            default: due("digest()", x.digest(), m.digest());
        }
    }
}
