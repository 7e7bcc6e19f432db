/** Promises 4 to 6 and 8 at the edges of what THE VOW's sentences name. */
public final class VowEdgesTest {
    private static final String SIGNS_BETWEEN = "|&<>=+-*/";
    private static final String UNITS = "pbudlm0123456789";

    private VowEdgesTest() { }

    public static void main(String[] args) {
        lengths();
        eachCharacterFirst();
        eachCharacterBehindAUnit();
        eachCharacterBehindASign();
        eachCharacterWithinBrackets();
        blanks();
        digits();
        opens();
        signsAhead();
        comparisons();
        theFirstFault();
        faultsAsItIsWritten();
        faultLetsPeopleCount();
        each();
        asManySignsAsCanBe();
        truths();
        wraps();
        division();
        odds();
        minutes();
        strengths();
        Due.end("VowEdgesTest");
    }

    private static String times(int count, String text) {
        return text.repeat(count);
    }

    private static void fault(String text, int due) {
        OddBridge x = new OddBridge();
        for (int i = 0; i < text.length(); i++) {
            Due.is("4: write into \"" + text + "\"", x.write(text.charAt(i)), i + 1);
        }
        Due.is("6: fault() of \"" + text + "\"", x.fault(), due);
        Due.is("26: count(1) of \"" + text + "\"", x.count(1), text.length());
    }

    private static void lengths() {
        fault("", 1);
        fault("p", -1);
        fault(times(19, "p+") + "p", -1);
        fault(times(19, "p+") + " p", -1);
        fault(times(20, "p+"), 401);
        fault(times(19, "p+") + "p ", -1);
        fault(times(19, "p+") + "pp", 391);
        fault(times(40, " "), 401);
        fault(times(39, " "), 391);
        fault(times(39, " ") + "p", -1);
        fault(times(39, " ") + "x", 391);
        fault(times(39, " ") + "(", 401);
        fault(times(39, " ") + "1", -1);
        fault("x" + times(39, "p"), 1);
        OddBridge x = Due.vow(new OddBridge(), times(40, "x"));
        Due.is("5: erase() of a full one", x.erase(), 40);
        Due.is("6: fault() of an erased one", x.fault(), 1);
        Due.is("5: erase() of an empty one", x.erase(), 0);
        Due.is("4: write behind erase()", x.write('p'), 1);
        Due.is("5: erase() of one", x.erase(), 1);
    }

    private static int faultOf(String text) {
        return Due.vow(new OddBridge(), text).fault();
    }

    private static void eachCharacterFirst() {
        for (char c = 0; c < 128; c++) {
            int due = UNITS.indexOf(c) >= 0 ? -1 : " (!-".indexOf(c) >= 0 ? 11 : 1;
            Due.is("6: fault() of character " + (int) c, faultOf(String.valueOf(c)), due);
        }
    }

    private static void eachCharacterBehindAUnit() {
        for (String unit : new String[] {"p", "b", "u", "d", "l", "m", "7", "(p)", "!p", "-p", "p+p"}) {
            for (char c = 0; c < 128; c++) {
                boolean asDigit = unit.equals("7") && Character.isDigit(c);
                int length = unit.length();
                int due = SIGNS_BETWEEN.indexOf(c) >= 0 ? 10 * length + 11 : c == ' ' || asDigit ? -1 : 10 * length + 1;
                Due.is("6: fault() of " + unit + " and character " + (int) c, faultOf(unit + c), due);
            }
        }
    }

    private static void eachCharacterBehindASign() {
        for (String signs : new String[] {"|", "&", "<", ">", "=", "+", "-", "*", "/"}) {
            for (char c = 0; c < 128; c++) {
                int due = UNITS.indexOf(c) >= 0 ? -1 : " (!-".indexOf(c) >= 0 ? 31 : 21;
                Due.is("6: fault() of p" + signs + " and character " + (int) c, faultOf("p" + signs + c), due);
            }
        }
        for (String signs : new String[] {"!", "-", "("}) {
            for (char c = 0; c < 128; c++) {
                boolean open = signs.equals("(");
                int due = UNITS.indexOf(c) >= 0 ? open ? 21 : -1 : " (!-".indexOf(c) >= 0 ? 21 : 11;
                Due.is("6: fault() of " + signs + " and character " + (int) c, faultOf(signs + c), due);
            }
        }
    }

    private static void eachCharacterWithinBrackets() {
        for (char c = 0; c < 128; c++) {
            int due = c == ')' ? -1 : SIGNS_BETWEEN.indexOf(c) >= 0 || c == ' ' ? 31 : 21;
            Due.is("6: fault() of (p and character " + (int) c, faultOf("(p" + c), due);
        }
    }

    private static void blanks() {
        fault(" p", -1);
        fault("p ", -1);
        fault("  ( p | ! b ) & - 12 < m * l / d + u  ", -1);
        fault(" \t", 11);
        fault("p\n", 11);
        fault("p\u0000", 11);
        fault("12 ", -1);
        fault(" 12", -1);
        fault("1 2", 21);
        fault("123 456", 41);
        fault("123456 ", -1);
        fault("p +", 31);
        fault("p+ ", 31);
        fault("( ", 21);
        fault("( )", 21);
        fault("! ", 21);
        value("( p | ! b ) - - 12", 13);
        value(" 00 + p ", 7);
    }

    private static void digits() {
        fault("1", -1);
        fault("12345", -1);
        fault("123456", -1);
        fault("1234567", 2);
        fault("12345678", 2);
        fault("000000", -1);
        fault("0000001", 2);
        fault("1234567+", 2);
        fault("1234567)", 2);
        fault("-1234567", 12);
        fault("  1234567", 22);
        fault("p=1234567", 22);
        fault("(1234567)", 12);
        fault("123456+123456", -1);
        fault("123456+1234567", 72);
        fault("1234567+1234567", 2);
        fault("p1234567", 11);
        fault("p+" + times(4, " ") + "1234567", 62);
        fault(times(16, "p+") + " 1234567", 332);
        fault(times(17, "p+") + "123456", -1);
        fault(times(39, "1"), 2);
        fault(times(40, "1"), 2);
        value("0", 0);
        value("9", 9);
        value("999999", 999999);
        value("000009", 9);
        value("100000", 100000);
    }

    private static void opens() {
        fault(times(8, "(") + "p" + times(8, ")"), -1);
        fault(times(9, "(") + "p" + times(9, ")"), 83);
        fault(times(7, "(") + "p" + times(7, ")"), -1);
        fault(times(8, "("), 81);
        fault(times(9, "("), 83);
        fault(times(40, "("), 83);
        fault(times(8, "(") + ")", 81);
        fault(times(8, "(") + "p(", 91);
        fault(times(8, "(") + "p" + times(9, ")"), 171);
        fault(times(8, "(") + "p" + times(7, ")"), 161);
        fault(times(8, "(") + "p" + times(8, ")") + "+" + times(8, "("), 261);
        fault(times(8, "(") + "p)+(p)" + times(7, ")"), -1);
        fault(times(8, "(") + "p)+((p))" + times(6, ")"), 123);
        fault(times(8, "(") + "p+(", 103);
        fault(times(8, "(") + "!(", 93);
        fault(times(8, "(") + " (", 93);
        fault(" " + times(15, "p+") + times(9, "("), 393);
        fault(" " + times(15, "p+") + times(8, "("), 391);
        fault("(p)(", 31);
        fault("(p)+(p)", -1);
        fault("()", 11);
        fault(")", 1);
        fault("p)", 11);
        fault("(p))", 31);
        bareValue(times(8, "(") + "p" + times(8, ")"), 7);
        bareValue(times(8, "(") + "p)+1)*2)" + times(5, ")"), 16);
    }

    private static void signsAhead() {
        fault("!", 11);
        fault("-", 11);
        fault("!p", -1);
        fault("-p", -1);
        fault(times(39, "!") + "p", -1);
        fault(times(39, "-") + "p", -1);
        fault(times(40, "!"), 401);
        fault("p!", 11);
        fault("p!p", 11);
        fault("+p", 1);
        fault("p+-p", -1);
        fault("p-+p", 21);
        fault("p<-p", -1);
        fault("p|!p", -1);
        fault("p*-!-p", -1);
        fault("!*p", 11);
        value("!!p", 1);
        value("!!!p", 0);
        value("--p", 7);
        value("---p", -7);
        value("-!p", 0);
        value("!-p", 0);
        value("-!!p", -1);
        value("!p+1", 1);
        value("-p*-p", 49);
        value("-p-p", -14);
        value("!0*3", 3);
        value("!(p-7)", 1);
        value("-(p-9)", 2);
    }

    private static void comparisons() {
        for (char a : "<>=".toCharArray()) {
            for (char b : "<>=".toCharArray()) {
                fault("p" + a + b + "p", 21);
                fault("p" + a + "p" + b + "p", 31);
                fault("p" + a + "p+p" + b + "p", 51);
                fault("p" + a + "p&p" + b + "p", -1);
                fault("p" + a + "p|p" + b + "p", -1);
                fault("(p" + a + "p)" + b + "p", -1);
                fault("p" + a + "(p" + b + "p)", -1);
            }
        }
        value("6<7", 1);
        value("7<7", 0);
        value("8<7", 0);
        value("6>7", 0);
        value("7>7", 0);
        value("8>7", 1);
        value("6=7", 0);
        value("7=7", 1);
        value("8=7", 0);
        value("-1<0", 1);
        value("-1>0", 0);
        value("-7=0-7", 1);
    }

    /** Of several faults the one that comes first is told. */
    private static void theFirstFault() {
        fault("x1234567", 1);
        fault("1234567x", 2);
        fault("p+1234567x", 22);
        fault("px1234567", 11);
        fault(times(9, "(") + "1234567", 83);
        fault("1234567" + times(9, "("), 2);
        fault("p)(((((((((", 11);
        fault("(((((((1234567(((", 72);
        fault("p++x", 21);
        fault("(x", 11);
    }

    /** It is read anew at each character and at erase. */
    private static void faultsAsItIsWritten() {
        OddBridge x = new OddBridge();
        String text = "((p<3)&!m)+123456";
        int[] due = {11, 21, 31, 41, 51, 61, 71, 81, 91, -1, 111, -1, -1, -1, -1, -1, -1};
        for (int i = 0; i < text.length(); i++) {
            x.write(text.charAt(i));
            Due.is("6: fault() behind character " + i + " of " + text, x.fault(), due[i]);
        }
        x.write('7');
        Due.is("6: fault() with a seventh digit", x.fault(), 112);
        x.write('p');
        Due.is("6: fault() stays", x.fault(), 112);
        x.erase();
        Due.is("6: fault() of the erased", x.fault(), 1);
        x.write('p');
        Due.is("6: fault() of p", x.fault(), -1);
    }

    /** One WITH CHILD, one HERD: p 2, u 1, b 2. */
    private static void faultLetsPeopleCount() {
        for (String text : new String[] {"", " ", "u+", "0 0", "0000000", "(((((((((0", "u)", "x", "m<m<m"}) {
            OddBridge x = Due.vow(Due.ofKinds(1, 2), text);
            Due.is("8: well(1, 0) by \"" + text + "\"", x.well(1, 0), 1);
            Due.is("8: well(2, 0) by \"" + text + "\"", x.well(2, 0), 1);
            Due.is("8: well(3, 0) by \"" + text + "\"", x.well(3, 0), 0);
            Due.is("8: well(3, 199) by \"" + text + "\"", x.well(3, 199), 0);
            Due.is("9: on(0) by \"" + text + "\"", x.on(0), 1);
            Due.is("9: on(1) by \"" + text + "\"", x.on(1), 2);
            Due.is("13: row(0) by \"" + text + "\"", x.row(0), 3 + 256);
            x.say(0, 0, 1);
            x.say(1, 1, 2);
            Due.is("20: dispute(0) by \"" + text + "\"", x.dispute(0), 2);
        }
    }

    private static void each() {
        bareValue("p", 7);
        bareValue("b", 3);
        bareValue("u", 3);
        bareValue("d", 2);
        bareValue("l", 3);
        bareValue("m", 9);
        bareValue("1", 1);
        bareValue("-p", -7);
        bareValue("!p", 0);
        bareValue("!0", 1);
        bareValue(" -p", -7);
        bareValue("p+b+u+d+l+m", 27);
    }

    /** The text is full of signs that are worked: 39 ahead of one unit, 20 units with 19 between, at the last place too. */
    private static void asManySignsAsCanBe() {
        odd(times(39, "!") + "p", 0);
        odd(times(38, "!") + "p", 1);
        odd(times(39, "!") + "0", 1);
        odd(times(39, "-") + "p", 1);
        odd(times(36, "-") + "p=7", 1);
        odd(times(35, "-") + "p=-7", 1);
        odd(times(19, "1+") + "p", 0);
        odd(times(19, "1-") + "1", 0);
        odd(" " + times(19, "1+") + "p", 0);
        odd(" " + times(19, "1*") + "7", 1);
        odd(times(19, "0|") + " 1", 1);
        odd(times(19, "1&") + " 0", 0);
        odd("0|1&1<2+3*(0|1&1<2+3*(0|1&1<2+3*(0|1)))", 1);
    }

    private static void truths() {
        value("0|0", 0);
        value("0|1", 1);
        value("1|0", 1);
        value("1|1", 1);
        value("0&0", 0);
        value("0&1", 0);
        value("1&0", 0);
        value("1&1", 1);
        value("2|2", 1);
        value("2&2", 1);
        value("-1&-1", 1);
        value("-2|0", 1);
        value("0|-2", 1);
        value("1&2&3", 1);
        value("1&2&0", 0);
        value("0&2&3", 0);
        value("0|0|3", 1);
        value("!2", 0);
        value("!-2", 0);
        value("!0", 1);
        value("65536*65536&1", 1);
        value("65536*65536|0", 1);
        value("!(65536*65536)", 0);
        value("0&1/0", 0);
        value("1|1/0", 1);
        value("1/0|1", 1);
    }

    private static final String TO_THE_57TH = "524288*524288*524288";
    private static final String LEAST_LONG = TO_THE_57TH + "*64";

    /** 524288 is 2 to the 19th. */
    private static void wraps() {
        odd(LEAST_LONG + "<0", 1);
        odd(LEAST_LONG + "-1>0", 1);
        odd(LEAST_LONG + "-1", 1);
        odd(LEAST_LONG + "-1+1<0", 1);
        odd(LEAST_LONG, 0);
        odd("-(" + LEAST_LONG + ")<0", 1);
        odd("-(" + LEAST_LONG + ")", 0);
        odd(LEAST_LONG + "/-1<0", 1);
        odd(LEAST_LONG + "/-1", 0);
        odd(LEAST_LONG + "/0=0", 1);
        odd(LEAST_LONG + "*2=0", 1);
        odd(LEAST_LONG + "*3<0", 1);
        odd("(" + LEAST_LONG + ")&1", 1);
        odd("!(" + LEAST_LONG + ")", 0);
        odd(TO_THE_57TH + "*32>0", 1);
        odd(TO_THE_57TH + "*524288=0", 1);
        odd("65536*65536", 0);
        odd("65536*65536+1", 1);
        odd("65536*65536>0", 1);
        odd("65536*32768>0", 1);
        odd("46341*46341>0", 1);
        odd("999999*999999/999999=999999", 1);
    }

    private static void division() {
        value("7/2", 3);
        value("-7/2", -3);
        value("7/-2", -3);
        value("-7/-2", 3);
        value("1/2", 0);
        value("-1/2", 0);
        value("1/-2", 0);
        value("0/5", 0);
        value("5/0", 0);
        value("-5/0", 0);
        value("0/0", 0);
        value("5/(p-7)", 0);
        value("5/0+1", 1);
        value("6/3", 2);
        value("6/7", 0);
        value("7/7", 1);
        value("9/2*2", 8);
        value("2*9/2", 9);
        value("9/2/2", 2);
    }

    private static void odds() {
        odd("1", 1);
        odd("2", 0);
        odd("0", 0);
        odd("3", 1);
        odd("-1", 1);
        odd("-2", 0);
        odd("-3", 1);
        odd("0-3", 1);
        odd("999999", 1);
        odd("-999999", 1);
        for (String text : new String[] {"0", "2", "m*2", "", "1"}) {
            OddBridge x = Due.vow(Due.ofKinds(0), text);
            Due.is("8: the empty set by \"" + text + "\"", x.well(0, 0), 1);
            Due.is("8: the empty set by \"" + text + "\", last", x.well(0, 199), 1);
        }
        Due.is("8: the empty set of none", new OddBridge().well(0, 0), 1);
        Due.is("8: the empty set of none, last", new OddBridge().well(0, 199), 1);
        OddBridge priest = Due.ofKinds(5);
        Due.is("8: a PRIEST alone brings nothing", priest.well(1, 0), 0);
        Due.vow(priest, "1");
        Due.is("8: who brings nothing, by 1", priest.well(1, 0), 1);
    }

    private static void minutes() {
        OddBridge x = Due.ofKinds(0);
        for (int minute : new int[] {0, 1, 62, 63, 64, 198, 199}) {
            Due.vow(x, "m=" + minute);
            for (int at = 0; at < 200; at += at == 0 || at > 60 && at < 66 || at > 196 ? 1 : at == 1 ? 60 : 11) {
                Due.is("8: well(1, " + at + ") by m=" + minute, x.well(1, at), at == minute ? 1 : 0);
            }
        }
        Due.vow(x, "m");
        Due.is("8: well(1, 0) by m", x.well(1, 0), 0);
        Due.is("8: well(1, 199) by m", x.well(1, 199), 1);
    }

    /** Each sign binds as told over the one that is told before it. */
    private static void strengths() {
        value("1|0&0", 1);
        value("0&0|1", 1);
        value("2&3<1", 0);
        value("3<1&2", 0);
        value("1&3=3", 1);
        value("1+1=2", 1);
        value("2=1+1", 1);
        value("1-1<1", 1);
        value("1+2*3", 7);
        value("2*3+1", 7);
        value("9-4/2", 7);
        value("9-4-2", 3);
        value("9-4+2", 7);
        value("-2*3", -6);
        value("2*-3", -6);
        value("!0+!0", 2);
        value("!1|1", 1);
        value("!0&0", 0);
        value("!(0&0)", 1);
        odd("-(" + LEAST_LONG + ")/2<0", 1);
        odd("-(" + LEAST_LONG + ")/2>0", 0);
        odd("0-(" + LEAST_LONG + ")/2>0", 1);
    }

    /** One of each KIND: p 7, b 3, u 3, d 2, l 3. */
    private static void odd(String text, int due) {
        OddBridge x = Due.vow(Due.ofKinds(0, 1, 2, 3, 4, 5, 6, 7), text);
        Due.is("6: fault() of \"" + text + "\"", x.fault(), -1);
        Due.is("8: well(255, 9) by \"" + text + "\"", x.well(255, 9), due);
    }

    private static void value(String text, long due) {
        bareValue("(" + text + ")", due);
    }

    /** It is equal to what is due, and not below or above it. */
    private static void bareValue(String text, long due) {
        odd(text + "=" + due, 1);
        odd(text + ">" + due, 0);
        odd(text + "<" + due, 0);
    }
}
