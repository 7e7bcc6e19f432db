import java.math.BigInteger;
import java.util.ArrayList;
import java.util.Arrays;
import java.util.List;

/**
 * The document's words over again, as slowly and as unlike the program as can be: texts are cut apart, companies,
 * chances and ways home are told one by one. It is what RandomRunsTest holds the program against.
 */
final class Model {
    private static final String[] BROUGHT = {"p", "pu", "pbb", "pd", "pl", "", "pdll", "puub"};

    private List<int[]> walkers = new ArrayList<>();
    private List<int[]> said = new ArrayList<>();
    private String vow = "";
    private int wall = 0;
    private int price = 3;
    private final Model[] images = new Model[2];
    private BigInteger above = BigInteger.ZERO;
    private BigInteger below = BigInteger.ONE;
    private final int[] status = new int[3];

    private int[] behind;
    private int[] cameOn;
    private int[] wentOff;
    private List<Integer> faults;
    private long[][] wellSeen;

    private int bad() {
        status[0]++;
        return -2;
    }

    private int no() {
        status[1]++;
        return -3;
    }

    private int full() {
        status[2]++;
        return -4;
    }

    private void changed() {
        behind = null;
        wellSeen = null;
    }

    private boolean isSet(int set) {
        return set >= 0 && set < Math.pow(2, walkers.size());
    }

    private boolean isWalker(int walker) {
        return walker >= 0 && walker < walkers.size();
    }

    int walker(int kind, int time, int comes) {
        if (kind < 0 || kind > 7 || time < 1 || time > 20 || comes < 0 || comes > 99) return bad();
        if (walkers.size() == 8) return full();
        walkers.add(new int[] {kind, time, comes, 10});
        changed();
        return walkers.size() - 1;
    }

    int put(int what, int v) {
        if (what < 0 || what > 1 || v < 0 || v > (what == 0 ? 19 : 99)) return bad();
        changed();
        int was = what == 0 ? wall : price;
        if (what == 0) wall = v; else price = v;
        return was;
    }

    int write(int character) {
        if (character < 0 || character > 127) return bad();
        if (vow.length() == 40) return full();
        vow += (char) character;
        changed();
        return vow.length();
    }

    int erase() {
        int was = vow.length();
        vow = "";
        changed();
        return was;
    }

    /** A walk over the characters: is a unit due, and has each open ( a < > = behind its last & or |. */
    int fault() {
        boolean due = true;
        List<Boolean> compared = new ArrayList<>(List.of(false));
        for (int i = 0; i < vow.length(); i++) {
            char c = vow.charAt(i);
            int top = compared.size() - 1;
            if (c == ' ') continue;
            if (due && Character.isDigit(c)) {
                int first = i;
                while (i + 1 < vow.length() && Character.isDigit(vow.charAt(i + 1))) {
                    i++;
                    if (i - first == 6) return 10 * first + 2;
                }
                due = false;
            } else if (due && "pbudlm".indexOf(c) >= 0) {
                due = false;
            } else if (due && c == '(') {
                if (top == 8) return 10 * i + 3;
                compared.add(false);
            } else if (due && (c == '!' || c == '-')) {
                continue;
            } else if (!due && "|&".indexOf(c) >= 0) {
                compared.set(top, false);
                due = true;
            } else if (!due && "<>=".indexOf(c) >= 0 && !compared.get(top)) {
                compared.set(top, true);
                due = true;
            } else if (!due && "+-*/".indexOf(c) >= 0) {
                due = true;
            } else if (!due && c == ')' && top > 0) {
                compared.remove(top);
            } else {
                return 10 * i + 1;
            }
        }
        return due || compared.size() > 1 ? 10 * vow.length() + 1 : -1;
    }

    /** Cuts a faultless text at its last weakest sign that is outside of all ( ). */
    private long value(String text, int set, int minute) {
        for (String weak : new String[] {"|", "&", "<>=", "+-", "*/"}) {
            int open = 0;
            for (int i = text.length() - 1; i > 0; i--) {
                char c = text.charAt(i);
                open += c == ')' ? 1 : c == '(' ? -1 : 0;
                boolean between = Character.isLetterOrDigit(text.charAt(i - 1)) || text.charAt(i - 1) == ')';
                if (open == 0 && between && weak.indexOf(c) >= 0) {
                    return worked(c, value(text.substring(0, i), set, minute), value(text.substring(i + 1), set, minute));
                }
            }
        }
        char c = text.charAt(0);
        if (c == '!') return value(text.substring(1), set, minute) == 0 ? 1 : 0;
        if (c == '-') return -value(text.substring(1), set, minute);
        if (c == '(') return value(text.substring(1, text.length() - 1), set, minute);
        if (c == 'm') return minute;
        return Character.isDigit(c) ? Long.parseLong(text) : sum(set, c);
    }

    private static long worked(char c, long a, long b) {
        BigInteger left = BigInteger.valueOf(a);
        BigInteger right = BigInteger.valueOf(b);
        return switch (c) {
            case '|' -> a != 0 | b != 0 ? 1 : 0;
            case '&' -> a != 0 & b != 0 ? 1 : 0;
            case '<' -> a < b ? 1 : 0;
            case '>' -> a > b ? 1 : 0;
            case '=' -> a == b ? 1 : 0;
            case '+' -> left.add(right).longValue();
            case '-' -> left.subtract(right).longValue();
            case '*' -> left.multiply(right).longValue();
            default -> b == 0 ? 0 : left.divide(right).longValue();
        };
    }

    private int sum(int set, char sort) {
        int sum = 0;
        for (int i = 0; i < walkers.size(); i++) {
            if ((set >> i & 1) == 1) sum += BROUGHT[walkers.get(i)[0]].chars().filter(c -> c == sort).count();
        }
        return sum;
    }

    int brings(int set, int what) {
        if (!isSet(set) || what < 0 || what > 4) return bad();
        return sum(set, "pbudl".charAt(what));
    }

    private boolean isWell(int set, int minute) {
        if (set == 0) return true;
        if (wellSeen == null) wellSeen = new long[200][256];
        if (wellSeen[minute][set] == 0) {
            long value = fault() != -1 ? sum(set, 'p') : value(vow.replace(" ", ""), set, minute);
            wellSeen[minute][set] = Math.floorMod(value, 2L) == 1 ? 1 : -1;
        }
        return wellSeen[minute][set] == 1;
    }

    /** One beggar more: an eighth or ninth walker, who is sent away again. */
    private boolean isWellWithBeggar(int set) {
        walkers.add(new int[] {0, 1, 0, 10});
        long value = fault() != -1 ? sum(set | 1 << walkers.size() - 1, 'p')
            : value(vow.replace(" ", ""), set | 1 << walkers.size() - 1, 0);
        walkers.remove(walkers.size() - 1);
        return Math.floorMod(value, 2L) == 1;
    }

    int well(int set, int minute) {
        if (!isSet(set) || minute < 0 || minute > 199) return bad();
        return isWell(set, minute) ? 1 : 0;
    }

    private void feast() {
        if (behind != null) return;
        behind = new int[200];
        cameOn = new int[8];
        wentOff = new int[8];
        Arrays.fill(cameOn, -1);
        Arrays.fill(wentOff, -1);
        faults = new ArrayList<>();
        int on = 0;
        for (int t = 0; t < 200; t++) {
            int steps = -1;
            for (int many = 8; many >= 0 && steps == -1; many--) {
                for (int set = 0; set < 256 && steps == -1; set++) {
                    if (Integer.bitCount(set) == many && isAllowed(on, set, t) && standsWell(on ^ set, on, t)) steps = set;
                }
            }
            if (steps == -1) faults.add(t);
            for (int i = 0; i < 8 && steps != -1; i++) {
                if ((steps >> i & 1) == 1) (((on >> i & 1) == 1) ? wentOff : cameOn)[i] = t;
            }
            on ^= steps == -1 ? 0 : steps;
            behind[t] = on;
        }
    }

    private boolean isAllowed(int on, int set, int t) {
        for (int i = 0; i < 8; i++) {
            if ((set >> i & 1) == 0) continue;
            if (i >= walkers.size()) return false;
            boolean off = (on >> i & 1) == 1;
            if (off && cameOn[i] + walkers.get(i)[1] > t) return false;
            if (!off && (cameOn[i] != -1 || walkers.get(i)[2] > t)) return false;
        }
        return true;
    }

    private boolean standsWell(int then, int on, int t) {
        if (wall == 0) return isWell(then, t);
        int young = 0;
        for (int i = 0; i < 8; i++) {
            int since = (on >> i & 1) == 1 ? t - cameOn[i] : 0;
            if ((then >> i & 1) == 1 && since < wall) young += 1 << i;
        }
        return isWell(young, t) && isWell(then - young, t);
    }

    int on(int minute) {
        if (minute < 0 || minute > 199) return bad();
        feast();
        return behind[minute];
    }

    int stepped(int walker, int what) {
        if (!isWalker(walker) || what < 0 || what > 1) return bad();
        feast();
        return (what == 0 ? cameOn : wentOff)[walker];
    }

    int faulty(int what) {
        if (what < 0 || what > 1) return bad();
        feast();
        return what == 0 ? faults.size() : faults.isEmpty() ? -1 : faults.get(0);
    }

    private List<Integer> bestRow;
    private int bestMinutes;
    private int bestPay;
    private int leastPay;

    private void tellRows() {
        bestRow = null;
        bestMinutes = -1;
        bestPay = -1;
        leastPay = -1;
        boolean[] well = new boolean[256];
        boolean[] wellWith = new boolean[256];
        for (int set = 1; isSet(set); set++) {
            well[set] = isWell(set, 0);
            wellWith[set] = isWellWithBeggar(set);
        }
        tellRow((1 << walkers.size()) - 1, new ArrayList<>(), 0, 0, well, wellWith);
    }

    private void tellRow(int left, List<Integer> ahead, int minutes, int pay, boolean[] well, boolean[] wellWith) {
        if (left == 0) {
            boolean better = bestRow == null || minutes < bestMinutes || minutes == bestMinutes && pay < bestPay;
            if (better) {
                bestRow = new ArrayList<>(ahead);
                bestMinutes = minutes;
                bestPay = pay;
            }
            leastPay = leastPay == -1 ? pay : Math.min(leastPay, pay);
            return;
        }
        for (int set = 1; set <= left; set++) {
            if ((set & left) != set || Integer.numberOfTrailingZeros(set) != Integer.numberOfTrailingZeros(left)) continue;
            if (!well[set] && !wellWith[set]) continue;
            int time = 0;
            for (int i = 0; i < walkers.size(); i++) {
                if ((set >> i & 1) == 1) time = Math.max(time, walkers.get(i)[1]);
            }
            ahead.add(well[set] ? set : set + 256);
            tellRow(left - set, ahead, minutes + time, pay + (well[set] ? 0 : price), well, wellWith);
            ahead.remove(ahead.size() - 1);
        }
    }

    int least(int what) {
        if (what < 0 || what > 3) return bad();
        tellRows();
        if (bestRow == null) return -1;
        return what == 0 ? bestMinutes : what == 1 ? bestPay : what == 2 ? bestRow.size() : leastPay;
    }

    int row(int i) {
        if (i < 0) {
            bad();
            return -10;
        }
        tellRows();
        return bestRow == null || i >= bestRow.size() ? -5 : bestRow.get(i);
    }

    private void fraction(BigInteger newAbove, BigInteger newBelow) {
        BigInteger divisor = newAbove.gcd(newBelow);
        above = newAbove.divide(divisor);
        below = newBelow.divide(divisor);
    }

    int toll(int e, int n) {
        if (e < 0 || e > 20 || n < 0 || n > 8) return bad();
        tellRows();
        if (bestRow == null) return no();
        BigInteger sum = BigInteger.ZERO;
        for (int stopped = 0; stopped < 1 << bestRow.size(); stopped++) {
            int many = Integer.bitCount(stopped);
            if (many <= n) {
                sum = sum.add(BigInteger.valueOf(e).pow(many)
                    .multiply(BigInteger.valueOf(20 - e).pow(bestRow.size() - many)));
            }
        }
        fraction(sum, BigInteger.valueOf(20).pow(bestRow.size()));
        return 1;
    }

    int doubt(int walker, int c) {
        if (!isWalker(walker) || c < 0 || c > 10) return bad();
        int was = walkers.get(walker)[3];
        walkers.set(walker, walkers.get(walker).clone());
        walkers.get(walker)[3] = c;
        return was;
    }

    int odd(int set) {
        if (!isSet(set)) return bad();
        BigInteger sum = BigInteger.ZERO;
        for (int counting = 0; counting <= set; counting++) {
            if ((counting & set) != counting || Integer.bitCount(counting) % 2 == 0) continue;
            BigInteger chance = BigInteger.ONE;
            for (int i = 0; i < walkers.size(); i++) {
                int c = walkers.get(i)[3];
                if ((set >> i & 1) == 1) chance = chance.multiply(BigInteger.valueOf((counting >> i & 1) == 1 ? c : 10 - c));
            }
            sum = sum.add(chance);
        }
        fraction(sum, BigInteger.TEN.pow(Integer.bitCount(set)));
        return 1;
    }

    /** {how many ways, the fewest companies} of all ways with sizes from this one on. */
    private static int[] waysHome(int people, int room, int size) {
        if (people == 0) return new int[] {1, 0};
        int[] found = {0, -1};
        for (int next = size; next <= Math.min(room, people); next++) {
            if (next % 2 == 0) continue;
            int[] rest = waysHome(people - next, room, next);
            found[0] += rest[0];
            if (rest[1] != -1 && (found[1] == -1 || rest[1] + 1 < found[1])) found[1] = rest[1] + 1;
        }
        return found;
    }

    int home(int n, int room, int what) {
        if (n < 1 || n > 40 || room < 1 || room > 20 || what < 0 || what > 1) return bad();
        return waysHome(n - 1, room, 1)[what];
    }

    int say(int walker, int a, int b) {
        if (!isWalker(walker) || a < 0 || a > 62 || b < 0 || b > 62 || a > b) return bad();
        if (said.size() == 8) return full();
        said.add(new int[] {walker, a, b});
        return said.size() - 1;
    }

    int hush() {
        int was = said.size();
        said.clear();
        return was;
    }

    private long unwell(int but) {
        long minutes = 0;
        for (int minute = 0; minute <= 62; minute++) {
            int set = 0;
            for (int i = 0; i < said.size(); i++) {
                boolean told = said.get(i)[1] <= minute && said.get(i)[2] >= minute;
                if (told && (but >> i & 1) == 0) set |= 1 << said.get(i)[0];
            }
            if (!isWell(set, minute)) minutes += 1L << minute;
        }
        return minutes;
    }

    long dispute(int but) {
        return but < 0 || but >= 1 << said.size() ? bad() : unwell(but);
    }

    int lied(int what) {
        if (what < 0 || what > 1) return bad();
        int alone = 0;
        for (int i = 0; i < said.size(); i++) {
            if (unwell(1 << i) == 0) alone += 1 << i;
        }
        for (int many = 0; many <= 8 && what == 1; many++) {
            for (int set = 0; set < 1 << said.size(); set++) {
                if (Integer.bitCount(set) == many && unwell(set) == 0) return set;
            }
        }
        return alone;
    }

    long part(int what) {
        return what == 0 ? above.longValue() : what == 1 ? below.longValue() : bad();
    }

    private void take(Model other) {
        walkers = new ArrayList<>(other.walkers);
        said = new ArrayList<>(other.said);
        vow = other.vow;
        wall = other.wall;
        price = other.price;
        changed();
    }

    int image(int i) {
        if (i < 0 || i > 1) return bad();
        images[i] = new Model();
        images[i].take(this);
        return 1;
    }

    int from(int i) {
        if (i < 0 || i > 1) return bad();
        if (images[i] == null) return no();
        take(images[i]);
        return 1;
    }

    int status(int what) {
        if (what >= 0 && what <= 2) return status[what];
        bad();
        return -1;
    }

    int count(int what) {
        return what == 0 ? walkers.size() : what == 1 ? vow.length() : what == 2 ? said.size() : bad();
    }

    long digest() {
        List<Long> told = new ArrayList<>(List.of((long) walkers.size(), (long) vow.length(), (long) said.size()));
        walkers.forEach(w -> Arrays.stream(w).forEach(v -> told.add((long) v)));
        told.add((long) wall);
        told.add((long) price);
        vow.chars().forEach(c -> told.add((long) c));
        said.forEach(s -> Arrays.stream(s).forEach(v -> told.add((long) v)));
        told.add(above.longValue());
        told.add(below.longValue());
        long h = 643;
        for (long v : told) h = h * 31 + v;
        return h;
    }
}
