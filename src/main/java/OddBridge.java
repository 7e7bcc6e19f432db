import java.util.Arrays;

/** A bridge that by a vow may carry only an odd number at a time; ../shared/DOC.md says what each call answers. */
public final class OddBridge {
    public static final int NONE = -1, BAD = -2, NO = -3, FULL = -4;

    private static final int BAD_ROW = -10, NO_COMPANY = -5, NO_STATUS = -1;
    private static final int MOST_WALKERS = 8, SETS = 256, ALL = 255;
    private static final int MOST_SAID = 8, SAID_MINUTES = 63;
    private static final int MINUTES = 200, LETTERS = 40;
    private static final int WITH_BEGGAR = 256, TOLL_SIDES = 20, DOUBT_SIDES = 10, MOST_OUT = 40;
    private static final int PEOPLE = 0, SORTS = 5;

    /** p, b, u, d, l of each KIND, PLAIN to MIDWIFE; what a KIND takes over from the one above it is worked in. */
    private static final int[] BROUGHT = {
        1, 0, 0, 0, 0,
        1, 0, 1, 0, 0,
        1, 2, 0, 0, 0,
        1, 0, 0, 1, 0,
        1, 0, 0, 0, 1,
        0, 0, 0, 0, 0,
        1, 0, 0, 1, 2,
        1, 1, 2, 0, 0,
    };
    private static final int KINDS = 8;

    private final Scene scene;
    private final Scene firstImage;
    private final Scene secondImage;
    private final boolean[] kept;
    private final Vow vow;
    private final Judge judge;
    private final Feast feast;
    private final Crossing crossing;
    private final Hearing hearing;
    private final Fraction fraction;
    private final long[] stops;
    private final int[] ways;
    private int refusedBad;
    private int refusedNo;
    private int refusedFull;

    public OddBridge() {
        scene = new Scene();
        firstImage = new Scene();
        secondImage = new Scene();
        kept = new boolean[2];
        vow = new Vow(scene);
        judge = new Judge(scene, vow);
        feast = new Feast(scene, judge);
        crossing = new Crossing(scene, judge);
        hearing = new Hearing(scene, judge);
        fraction = new Fraction();
        stops = new long[MOST_WALKERS + 1];
        ways = new int[MOST_OUT];
    }

    // ---- walkers, vows

    public int walker(int kind, int time, int comes) {
        if (!isWithin(kind, 0, KINDS - 1) || !isWithin(time, 1, 20) || !isWithin(comes, 0, 99)) {
            return refuseAsBad();
        }
        if (scene.walkers >= MOST_WALKERS) {
            return refuseAsFull();
        }
        int number = scene.walkers;
        scene.addWalker(kind, time, comes);
        forgetWhatFollows();
        return number;
    }

    public int put(int what, int v) {
        if (what == 0 && isWithin(v, 0, 19)) {
            int was = scene.wall;
            scene.wall = v;
            feast.known = false;
            return was;
        }
        if (what == 1 && isWithin(v, 0, 99)) {
            int was = scene.price;
            scene.price = v;
            crossing.known = false;
            return was;
        }
        return refuseAsBad();
    }

    public int write(int character) {
        if (!isWithin(character, 0, 127)) {
            return refuseAsBad();
        }
        if (scene.letters >= LETTERS) {
            return refuseAsFull();
        }
        scene.addLetter((char) character);
        vow.read();
        forgetWhatFollows();
        return scene.letters;
    }

    public int erase() {
        int was = scene.letters;
        scene.letters = 0;
        vow.read();
        forgetWhatFollows();
        return was;
    }

    public int fault() {
        return vow.flaw;
    }

    public int brings(int set, int what) {
        if (!isSetOf(set, scene.walkers) || !isWithin(what, 0, SORTS - 1)) {
            return refuseAsBad();
        }
        return scene.sumBrought(set, what);
    }

    public int well(int set, int minute) {
        if (!isSetOf(set, scene.walkers) || !isWithin(minute, 0, MINUTES - 1)) {
            return refuseAsBad();
        }
        return judge.isWell(set, minute) ? 1 : 0;
    }

    // ---- the feast

    public int on(int minute) {
        if (!isWithin(minute, 0, MINUTES - 1)) {
            return refuseAsBad();
        }
        feast.goThrough();
        return feast.behind[minute];
    }

    public int stepped(int walker, int what) {
        if (!isWalker(walker) || !isWithin(what, 0, 1)) {
            return refuseAsBad();
        }
        feast.goThrough();
        return what == 0 ? feast.cameOn[walker] : feast.wentOff[walker];
    }

    public int faulty(int what) {
        if (!isWithin(what, 0, 1)) {
            return refuseAsBad();
        }
        feast.goThrough();
        return what == 0 ? feast.faults : feast.firstFault;
    }

    // ---- companies

    public int least(int what) {
        if (!isWithin(what, 0, 3)) {
            return refuseAsBad();
        }
        crossing.plan();
        switch (what) {
            case 0: return crossing.leastMinutes;
            case 1: return crossing.payOfRow;
            case 2: return crossing.hasRow ? crossing.companies : NONE;
            default: return crossing.leastPay;
        }
    }

    public int row(int i) {
        if (i < 0) {
            refusedBad++;
            return BAD_ROW;
        }
        crossing.plan();
        return i < crossing.companies && i < MOST_WALKERS ? crossing.row[i] : NO_COMPANY;
    }

    public int toll(int e, int n) {
        if (!isWithin(e, 0, TOLL_SIDES) || !isWithin(n, 0, MOST_WALKERS)) {
            return refuseAsBad();
        }
        crossing.plan();
        if (!crossing.hasRow) {
            return refuseAsNo();
        }
        long below = spreadStops(e, crossing.companies);
        long above = 0;
        for (int stopped = 0; stopped <= n; stopped++) {
            above += stops[stopped];
        }
        fraction.become(above, below);
        return 1;
    }

    public int doubt(int walker, int c) {
        if (!isWalker(walker) || !isWithin(c, 0, DOUBT_SIDES)) {
            return refuseAsBad();
        }
        int was = scene.doubts[walker];
        scene.doubts[walker] = c;
        return was;
    }

    public int odd(int set) {
        if (!isSetOf(set, scene.walkers)) {
            return refuseAsBad();
        }
        long odds = 0;
        long evens = 1;
        for (int i = 0; i < MOST_WALKERS; i++) {
            if (holds(set, i)) {
                long counts = scene.doubts[i];
                long not = DOUBT_SIDES - counts;
                long oddsThen = odds * not + evens * counts;
                evens = evens * not + odds * counts;
                odds = oddsThen;
            }
        }
        fraction.become(odds, odds + evens);
        return 1;
    }

    public int home(int n, int room, int what) {
        if (!isWithin(n, 1, MOST_OUT) || !isWithin(room, 1, 20) || !isWithin(what, 0, 1)) {
            return refuseAsBad();
        }
        return what == 0 ? waysHome(n - 1, room) : fewestHome(n - 1, room);
    }

    // ---- disputes

    public int say(int walker, int a, int b) {
        if (!isWalker(walker) || !isWithin(a, 0, SAID_MINUTES - 1) || !isWithin(b, a, SAID_MINUTES - 1)) {
            return refuseAsBad();
        }
        if (scene.said >= MOST_SAID) {
            return refuseAsFull();
        }
        int number = scene.said;
        scene.addSaid(walker, a, b);
        return number;
    }

    public int hush() {
        int was = scene.said;
        scene.said = 0;
        return was;
    }

    public long dispute(int but) {
        if (!isSetOf(but, scene.said)) {
            return refuseAsBad();
        }
        return hearing.minutesUnwell(but);
    }

    public int lied(int what) {
        if (!isWithin(what, 0, 1)) {
            return refuseAsBad();
        }
        return what == 0 ? hearing.eachAlone() : hearing.fewestLiars();
    }

    // ---- what there is

    public long part(int what) {
        if (!isWithin(what, 0, 1)) {
            return refuseAsBad();
        }
        return what == 0 ? fraction.above : fraction.below;
    }

    public int image(int i) {
        if (!isWithin(i, 0, 1)) {
            return refuseAsBad();
        }
        imageAt(i).become(scene);
        kept[i] = true;
        return 1;
    }

    public int from(int i) {
        if (!isWithin(i, 0, 1)) {
            return refuseAsBad();
        }
        if (!kept[i]) {
            return refuseAsNo();
        }
        scene.become(imageAt(i));
        vow.read();
        forgetWhatFollows();
        return 1;
    }

    public int status(int what) {
        switch (what) {
            case 0: return refusedBad;
            case 1: return refusedNo;
            case 2: return refusedFull;
            default:
                refusedBad++;
                return NO_STATUS;
        }
    }

    public int count(int what) {
        switch (what) {
            case 0: return scene.walkers;
            case 1: return scene.letters;
            case 2: return scene.said;
            default: return refuseAsBad();
        }
    }

    public long digest() {
        long h = scene.addedTo(643);
        h = 31 * h + fraction.above;
        return 31 * h + fraction.below;
    }

    // ---- helpers

    private int refuseAsBad() {
        refusedBad++;
        return BAD;
    }

    private int refuseAsNo() {
        refusedNo++;
        return NO;
    }

    private int refuseAsFull() {
        refusedFull++;
        return FULL;
    }

    private static boolean isWithin(int v, int from, int to) {
        return v >= from && v <= to;
    }

    private static boolean isSetOf(int set, int count) {
        return set >= 0 && set < (1 << count);
    }

    private static boolean holds(int set, int i) {
        return ((set >> i) & 1) != 0;
    }

    private boolean isWalker(int walker) {
        return walker >= 0 && walker < scene.walkers && walker < MOST_WALKERS;
    }

    private Scene imageAt(int i) {
        return i == 0 ? firstImage : secondImage;
    }

    private void forgetWhatFollows() {
        judge.stale = true;
        feast.known = false;
        crossing.known = false;
    }

    /** Leaves in stops how often, of all that can be, so many are stopped; answers how often in all. */
    private long spreadStops(int e, int companies) {
        Arrays.fill(stops, 0);
        stops[0] = 1;
        long all = 1;
        for (int company = 0; company < companies; company++) {
            for (int stopped = MOST_WALKERS; stopped > 0; stopped--) {
                stops[stopped] = stops[stopped] * (TOLL_SIDES - e) + stops[stopped - 1] * e;
            }
            stops[0] *= TOLL_SIDES - e;
            all *= TOLL_SIDES;
        }
        return all;
    }

    private int waysHome(int people, int room) {
        Arrays.fill(ways, 0);
        ways[0] = 1;
        for (int size = 1; size <= room; size += 2) {
            for (int sum = size; sum <= people; sum++) {
                ways[sum] += ways[sum - size];
            }
        }
        return ways[people];
    }

    /** So many odd sizes up to the largest give every sum of their own parity between so many and so many times it. */
    private static int fewestHome(int people, int room) {
        int largest = room % 2 == 0 ? room - 1 : room;
        for (int companies = 0; companies <= people; companies++) {
            if (companies * largest >= people && (people - companies) % 2 == 0) {
                return companies;
            }
        }
        return NONE;
    }

    /** All that an image keeps. */
    private static final class Scene {
        private final int[] kinds = new int[MOST_WALKERS];
        private final int[] times = new int[MOST_WALKERS];
        private final int[] comings = new int[MOST_WALKERS];
        private final int[] doubts = new int[MOST_WALKERS];
        private int walkers = 0;
        private int wall = 0;
        private int price = 3;
        private final char[] text = new char[LETTERS];
        private int letters = 0;
        private final int[] sayers = new int[MOST_SAID];
        private final int[] begins = new int[MOST_SAID];
        private final int[] ends = new int[MOST_SAID];
        private int said = 0;

        private void addWalker(int kind, int time, int comes) {
            if (walkers < MOST_WALKERS) {
                kinds[walkers] = kind;
                times[walkers] = time;
                comings[walkers] = comes;
                doubts[walkers] = DOUBT_SIDES;
                walkers++;
            }
        }

        private void addLetter(char letter) {
            if (letters < LETTERS) {
                text[letters] = letter;
                letters++;
            }
        }

        private void addSaid(int walker, int a, int b) {
            if (said < MOST_SAID) {
                sayers[said] = walker;
                begins[said] = a;
                ends[said] = b;
                said++;
            }
        }

        private void become(Scene other) {
            System.arraycopy(other.kinds, 0, kinds, 0, MOST_WALKERS);
            System.arraycopy(other.times, 0, times, 0, MOST_WALKERS);
            System.arraycopy(other.comings, 0, comings, 0, MOST_WALKERS);
            System.arraycopy(other.doubts, 0, doubts, 0, MOST_WALKERS);
            walkers = other.walkers;
            wall = other.wall;
            price = other.price;
            System.arraycopy(other.text, 0, text, 0, LETTERS);
            letters = other.letters;
            System.arraycopy(other.sayers, 0, sayers, 0, MOST_SAID);
            System.arraycopy(other.begins, 0, begins, 0, MOST_SAID);
            System.arraycopy(other.ends, 0, ends, 0, MOST_SAID);
            said = other.said;
        }

        private int sumBrought(int set, int what) {
            int sum = 0;
            for (int i = 0; i < walkers && i < MOST_WALKERS; i++) {
                int at = kinds[i] * SORTS + what;
                if (holds(set, i) && at >= 0 && at < BROUGHT.length) {
                    sum += BROUGHT[at];
                }
            }
            return sum;
        }

        private long addedTo(long start) {
            long h = 31 * start + walkers;
            h = 31 * h + letters;
            h = 31 * h + said;
            for (int i = 0; i < walkers && i < MOST_WALKERS; i++) {
                h = 31 * h + kinds[i];
                h = 31 * h + times[i];
                h = 31 * h + comings[i];
                h = 31 * h + doubts[i];
            }
            h = 31 * h + wall;
            h = 31 * h + price;
            for (int i = 0; i < letters && i < LETTERS; i++) {
                h = 31 * h + text[i];
            }
            for (int i = 0; i < said && i < MOST_SAID; i++) {
                h = 31 * h + sayers[i];
                h = 31 * h + begins[i];
                h = 31 * h + ends[i];
            }
            return h;
        }
    }

    /**
     * The vow, read once into signs that stand behind what they work on, since one feast asks for thousands of values.
     * Behind the first flaw no sign is seen any more, so that every loop of the reading ends.
     */
    private static final class Vow {
        private static final int END = -1;
        private static final int MISPLACED = 1, TOO_MANY_DIGITS = 2, TOO_MANY_OPEN = 3;
        private static final int MOST_DIGITS = 6, MOST_OPEN = 8;
        private static final char NUMBER = '#', MINUS_OF_ONE = '~';
        private static final String SORT_LETTERS = "pbudl";

        private final Scene scene;
        private final char[] signs = new char[LETTERS];
        private final int[] numbers = new int[LETTERS];
        private int length;
        private final long[] stack = new long[LETTERS];
        private int top;
        private int place;
        private int flaw;
        private boolean namesMinute;

        private Vow(Scene scene) {
            this.scene = scene;
            read();
        }

        private void read() {
            place = 0;
            length = 0;
            flaw = NONE;
            namesMinute = false;
            readValue(0);
            if (nextSign() != END) {
                setFlaw(place, MISPLACED);
            }
        }

        private void readValue(int open) {
            readBoth(open);
            for (int i = 0; i < LETTERS && take("|") != END; i++) {
                readBoth(open);
                addSign('|', 0);
            }
        }

        private void readBoth(int open) {
            readHeld(open);
            for (int i = 0; i < LETTERS && take("&") != END; i++) {
                readHeld(open);
                addSign('&', 0);
            }
        }

        private void readHeld(int open) {
            readSum(open);
            int sign = take("<>=");
            if (sign != END) {
                readSum(open);
                addSign((char) sign, 0);
            }
        }

        private void readSum(int open) {
            readTerm(open);
            int sign = take("+-");
            for (int i = 0; i < LETTERS && sign != END; i++) {
                readTerm(open);
                addSign((char) sign, 0);
                sign = take("+-");
            }
        }

        private void readTerm(int open) {
            readUnit(open);
            int sign = take("*/");
            for (int i = 0; i < LETTERS && sign != END; i++) {
                readUnit(open);
                addSign((char) sign, 0);
                sign = take("*/");
            }
        }

        /** Looks back over the ! and - ahead of a unit in place of calling itself, so that only ( goes deeper. */
        private void readUnit(int open) {
            int first = place;
            int sign = take("!-");
            for (int i = 0; i < LETTERS && sign != END; i++) {
                sign = take("!-");
            }
            int behind = place;
            readBareUnit(open);
            for (int i = behind - 1; i >= first && i >= 0 && i < LETTERS; i--) {
                if (scene.text[i] == '!') {
                    addSign('!', 0);
                } else if (scene.text[i] == '-') {
                    addSign(MINUS_OF_ONE, 0);
                }
            }
        }

        private void readBareUnit(int open) {
            int sign = nextSign();
            if (isDigit(sign)) {
                readDigits();
            } else if (sign == '(') {
                readOpened(open);
            } else if (sign == 'm') {
                namesMinute = true;
                place++;
                addSign('m', 0);
            } else if (sign != END && SORT_LETTERS.indexOf((char) sign) >= 0) {
                place++;
                addSign((char) sign, 0);
            } else {
                setFlaw(place, MISPLACED);
            }
        }

        private void readDigits() {
            int first = place;
            int number = 0;
            while (place < LETTERS && isDigit(signAt(place))) {
                if (place - first >= MOST_DIGITS) {
                    setFlaw(first, TOO_MANY_DIGITS);
                    return;
                }
                number = 10 * number + signAt(place) - '0';
                place++;
            }
            addSign(NUMBER, number);
        }

        private void readOpened(int open) {
            if (open >= MOST_OPEN) {
                setFlaw(place, TOO_MANY_OPEN);
                return;
            }
            place++;
            readValue(open + 1);
            if (take(")") == END) {
                setFlaw(place, MISPLACED);
            }
        }

        private static boolean isDigit(int sign) {
            return sign >= '0' && sign <= '9';
        }

        private int signAt(int i) {
            return i >= 0 && i < scene.letters && i < LETTERS ? scene.text[i] : END;
        }

        private int nextSign() {
            if (flaw != NONE) {
                return END;
            }
            while (place < LETTERS && signAt(place) == ' ') {
                place++;
            }
            return signAt(place);
        }

        private int take(String wanted) {
            int sign = nextSign();
            if (sign == END || wanted.indexOf((char) sign) < 0) {
                return END;
            }
            place++;
            return sign;
        }

        private void setFlaw(int where, int sort) {
            if (flaw == NONE) {
                flaw = 10 * where + sort;
            }
        }

        private void addSign(char sign, int number) {
            if (length < LETTERS) {
                signs[length] = sign;
                numbers[length] = number;
                length++;
            }
        }

        private long value(int[] brought, int minute) {
            if (flaw != NONE) {
                return brought[PEOPLE];
            }
            top = 0;
            for (int i = 0; i < length && i < LETTERS; i++) {
                char sign = signs[i];
                int sort = SORT_LETTERS.indexOf(sign);
                if (sort >= 0 && sort < SORTS) {
                    push(brought[sort]);
                } else if (sign == NUMBER) {
                    push(numbers[i]);
                } else if (sign == 'm') {
                    push(minute);
                } else if (sign == '!') {
                    push(pop() == 0 ? 1 : 0);
                } else if (sign == MINUS_OF_ONE) {
                    push(-pop());
                } else {
                    long right = pop();
                    push(work(sign, pop(), right));
                }
            }
            return pop();
        }

        private void push(long v) {
            if (top >= 0 && top < LETTERS) {
                stack[top] = v;
                top++;
            }
        }

        private long pop() {
            if (top <= 0 || top > LETTERS) {
                return 0;
            }
            top--;
            return stack[top];
        }

        private static long work(char sign, long left, long right) {
            switch (sign) {
                case '|': return left != 0 || right != 0 ? 1 : 0;
                case '&': return left != 0 && right != 0 ? 1 : 0;
                case '<': return left < right ? 1 : 0;
                case '>': return left > right ? 1 : 0;
                case '=': return left == right ? 1 : 0;
                case '+': return left + right;
                case '-': return left - right;
                case '*': return left * right;
                default: return right == 0 ? 0 : left / right;
            }
        }
    }

    /** Says which sets are WELL, and keeps what it said, a bit for each set and minute, until walkers or vow change. */
    private static final class Judge {
        private static final int WORDS = MINUTES * SETS / 64;

        private final Scene scene;
        private final Vow vow;
        private final int[] brought = new int[SORTS];
        private final long[] asked = new long[WORDS];
        private final long[] found = new long[WORDS];
        private boolean stale = true;

        private Judge(Scene scene, Vow vow) {
            this.scene = scene;
            this.vow = vow;
        }

        private boolean isWell(int set, int minute) {
            if (set == 0) {
                return true;
            }
            if (stale) {
                Arrays.fill(asked, 0);
                stale = false;
            }
            int at = (vow.namesMinute ? minute : 0) * SETS + set;
            int word = at >> 6;
            if (word < 0 || word >= WORDS) {
                return false;
            }
            long bit = 1L << (at & 63);
            if ((asked[word] & bit) == 0) {
                asked[word] |= bit;
                found[word] = isOdd(set, 0, minute) ? found[word] | bit : found[word] & ~bit;
            }
            return (found[word] & bit) != 0;
        }

        private boolean isOdd(int set, int beggars, int minute) {
            for (int sort = 0; sort < SORTS; sort++) {
                brought[sort] = scene.sumBrought(set, sort);
            }
            brought[PEOPLE] += beggars;
            return (vow.value(brought, minute) & 1) != 0;
        }
    }

    /** THE FEAST, gone through whole when something of it is asked, and kept until walkers, vow or wall change. */
    private static final class Feast {
        private final Scene scene;
        private final Judge judge;
        private final int[] behind = new int[MINUTES];
        private final int[] cameOn = new int[MOST_WALKERS];
        private final int[] wentOff = new int[MOST_WALKERS];
        private int present;
        private int faults;
        private int firstFault;
        private boolean known = false;

        private Feast(Scene scene, Judge judge) {
            this.scene = scene;
            this.judge = judge;
        }

        private void goThrough() {
            if (known) {
                return;
            }
            known = true;
            present = 0;
            faults = 0;
            firstFault = NONE;
            Arrays.fill(cameOn, NONE);
            Arrays.fill(wentOff, NONE);
            for (int minute = 0; minute < MINUTES; minute++) {
                int steps = bestSteps(minute);
                if (steps == NONE) {
                    firstFault = faults == 0 ? minute : firstFault;
                    faults++;
                } else {
                    step(steps, minute);
                }
                behind[minute] = present;
            }
        }

        private int bestSteps(int minute) {
            int may = mayStep(minute);
            int side = aheadOfWall(minute);
            int best = NONE;
            for (int set = 0; set <= may; set++) {
                boolean more = best == NONE || Integer.bitCount(set) > Integer.bitCount(best);
                if (more && (set & ~may) == 0) {
                    int ahead = (present ^ set) & side;
                    int behindWall = (present ^ set) & ~side;
                    best = judge.isWell(ahead, minute) && judge.isWell(behindWall, minute) ? set : best;
                }
            }
            return best;
        }

        private int mayStep(int minute) {
            int may = 0;
            for (int i = 0; i < scene.walkers && i < MOST_WALKERS; i++) {
                boolean mayOff = holds(present, i) && minute - cameOn[i] >= scene.times[i];
                boolean mayOn = cameOn[i] == NONE && scene.comings[i] <= minute;
                if (mayOff || mayOn) {
                    may |= 1 << i;
                }
            }
            return may;
        }

        /** Those who are not on count as ahead of the wall: they could only step on now. Without a wall all do. */
        private int aheadOfWall(int minute) {
            int ahead = ALL;
            for (int i = 0; i < MOST_WALKERS; i++) {
                if (scene.wall > 0 && holds(present, i) && minute - cameOn[i] >= scene.wall) {
                    ahead &= ~(1 << i);
                }
            }
            return ahead;
        }

        private void step(int steps, int minute) {
            for (int i = 0; i < MOST_WALKERS; i++) {
                if (holds(steps, i) && holds(present, i)) {
                    wentOff[i] = minute;
                } else if (holds(steps, i)) {
                    cameOn[i] = minute;
                }
            }
            present ^= steps;
        }
    }

    /** All over in companies: for each set that may be left, the best way on from there. */
    private static final class Crossing {
        private final Scene scene;
        private final Judge judge;
        private final int[] beggars = new int[SETS];
        private final int[] lasts = new int[SETS];
        private final int[] minutes = new int[SETS];
        private final int[] pays = new int[SETS];
        private final int[] firsts = new int[SETS];
        private final int[] leastPays = new int[SETS];
        private final int[] row = new int[MOST_WALKERS];
        private int companies;
        private boolean hasRow;
        private int leastMinutes;
        private int payOfRow;
        private int leastPay;
        private boolean known = false;

        private Crossing(Scene scene, Judge judge) {
            this.scene = scene;
            this.judge = judge;
        }

        private void plan() {
            if (known) {
                return;
            }
            known = true;
            int all = ((1 << scene.walkers) - 1) & ALL;
            for (int left = 1; left <= all; left++) {
                lookAtCompany(left);
                lookAtLeft(left);
            }
            hasRow = minutes[all] != NONE;
            leastMinutes = minutes[all];
            payOfRow = pays[all];
            leastPay = leastPays[all];
            companies = 0;
            if (hasRow) {
                lineUp(all);
            }
        }

        /** Beggars stay NONE where one does not help either. */
        private void lookAtCompany(int set) {
            beggars[set] = NONE;
            if (judge.isWell(set, 0)) {
                beggars[set] = 0;
            } else if (judge.isOdd(set, 1, 0)) {
                beggars[set] = 1;
            }
            lasts[set] = 0;
            for (int i = 0; i < MOST_WALKERS; i++) {
                if (holds(set, i)) {
                    lasts[set] = Math.max(lasts[set], scene.times[i]);
                }
            }
        }

        private void lookAtLeft(int left) {
            int leader = left & -left;
            minutes[left] = NONE;
            pays[left] = NONE;
            leastPays[left] = NONE;
            for (int set = leader; set <= left; set++) {
                boolean fits = (set & ~left) == 0 && (set & leader) != 0;
                if (fits && beggars[set] != NONE && minutes[left & ~set] != NONE) {
                    tryFirst(set, left);
                }
            }
        }

        private void tryFirst(int set, int left) {
            int rest = left & ~set;
            int pay = beggars[set] * scene.price;
            int minutesThen = lasts[set] + minutes[rest];
            int payThen = pay + pays[rest];
            boolean sooner = minutes[left] == NONE || minutesThen < minutes[left];
            if (sooner || (minutesThen == minutes[left] && payThen < pays[left])) {
                minutes[left] = minutesThen;
                pays[left] = payThen;
                firsts[left] = set;
            }
            if (leastPays[left] == NONE || pay + leastPays[rest] < leastPays[left]) {
                leastPays[left] = pay + leastPays[rest];
            }
        }

        private void lineUp(int all) {
            int left = all;
            for (int i = 0; i < MOST_WALKERS && left > 0 && left < SETS; i++) {
                int set = firsts[left] & ALL;
                row[i] = beggars[set] == 1 ? set + WITH_BEGGAR : set;
                left &= ~set;
                companies++;
            }
        }
    }

    /** The DISPUTE over what was SAID. */
    private static final class Hearing {
        private final Scene scene;
        private final Judge judge;

        private Hearing(Scene scene, Judge judge) {
            this.scene = scene;
            this.judge = judge;
        }

        private int onBut(int but, int minute) {
            int set = 0;
            for (int i = 0; i < scene.said && i < MOST_SAID; i++) {
                if (!holds(but, i) && scene.begins[i] <= minute && minute <= scene.ends[i]) {
                    set |= 1 << scene.sayers[i];
                }
            }
            return set;
        }

        private long minutesUnwell(int but) {
            long unwell = 0;
            for (int minute = 0; minute < SAID_MINUTES; minute++) {
                if (!judge.isWell(onBut(but, minute), minute)) {
                    unwell |= 1L << minute;
                }
            }
            return unwell;
        }

        private boolean allWellBut(int but) {
            for (int minute = 0; minute < SAID_MINUTES; minute++) {
                if (!judge.isWell(onBut(but, minute), minute)) {
                    return false;
                }
            }
            return true;
        }

        private int eachAlone() {
            int without = 0;
            for (int i = 0; i < scene.said && i < MOST_SAID; i++) {
                if (allWellBut(1 << i)) {
                    without |= 1 << i;
                }
            }
            return without;
        }

        private int fewestLiars() {
            int liars = (1 << scene.said) - 1;
            for (int set = 0; set < (1 << scene.said) && set < SETS; set++) {
                if (Integer.bitCount(set) < Integer.bitCount(liars) && allWellBut(set)) {
                    liars = set;
                }
            }
            return liars;
        }
    }

    /** In lowest terms, its lower part above 0. */
    private static final class Fraction {
        private long above = 0;
        private long below = 1;

        private void become(long newAbove, long newBelow) {
            long divisor = commonDivisor(newAbove, newBelow);
            if (divisor > 0) {
                above = newAbove / divisor;
                below = newBelow / divisor;
            }
        }

        private static long commonDivisor(long a, long b) {
            long larger = a;
            long smaller = b;
            for (int i = 0; i < 100 && smaller != 0; i++) {
                long rest = larger % smaller;
                larger = smaller;
                smaller = rest;
            }
            return larger;
        }
    }
}
