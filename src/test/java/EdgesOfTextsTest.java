/** Boundary cases of THE TEXT and of all that reads it: promises 1 to 6, the forms of A DAY (17) and of an ORDER (21). */
public final class EdgesOfTextsTest extends Asking {
    private static final String LINE = "11v10>111111;";

    public static void main(String[] args) {
        newObject();
        sign();
        signsByBytes();
        end();
        palaceSigns();
        palaceAnew();
        lineSigns();
        lineEnds();
        size();
        groupsOf76();
        roomForLines();
        nothingComes();
        emptyGroups();
        ruleSigns();
        ruleBehindDigits();
        ruleStays();
        ruleEnds();
        ruleOf40();
        ruleNumbers();
        ruleDepth();
        ruleComparisons();
        ruleValues();
        ruleOrderOfReckoning();
        daySigns();
        dayOf60();
        orderSigns();
        finish("the edges of texts hold");
    }

    // ---- 1

    private static void newObject() {
        promise = 1;
        x = new NoTwoInOneRoom();
        due("NONE", NoTwoInOneRoom.NONE, -1);
        for (int what = 0; what <= 10; what++) due("count " + what, x.count(what), 0);
        due("room 0", room(0, 0), THROWS);
        due("group 0", group(0, 0), THROWS);
        due("row 0", row(0), THROWS);
        due("nothing to undo", x.undo(), -1);
        due("nothing kept", x.again(0), false);
        due("nothing kept", x.again(1), false);
        due("nothing heard", x.forget(), 0);
        due("stuck", x.stuck(), 0);
        dueRow(0);
        due("pairs", x.pairs(), 0);
        dueRow(0);
        due("least", x.least(0), 0);
        dueRow(-1, 0);
        due("a MINUTE goes by without anybody", x.minute(), 0);
        dueRow(0, 0);
        due("90 more", x.minutes(90), 0);
        dueRow(0, 0);
        due("now", x.count(2), 91);
        due("keep", x.keep(0), true);
        due("stand", x.stand(9), 100);
        due("again", x.again(0), true);
        due("now", x.count(2), 91);
        dueRule("s+1", 0);
        dueGroups("", 0);
        dueGroups("0v1>1", -1);
        dueDay("m1;p1", 2, 0, 0);
        dueDay("oa", 0, 1, 0);
        dueOrder("a", -1);
    }

    // ---- 2, 3

    private static void sign() {
        promise = 2;
        x = new NoTwoInOneRoom();
        for (int n = 4; n <= 80; n += 4) due("sign", x.sign(0x72727272), n);
        due("84", x.sign(0x72727272), -1);
        due("signs", x.count(10), 80);
        for (int n = 77; n <= 79; n++) {
            due("end", x.end(80), true);
            due("end", x.end(n), true);
            due("there would be " + (n + 4), x.sign(0), -1);
            due("signs", x.count(10), n);
            x.end(76);
            due("80", x.sign(0), 80);
        }
        x.end(75);
        due("79", x.sign(0), 79);
        due("83", x.sign(0), -1);
        x.end(1);
        due("5", x.sign(0), 5);
    }

    private static void signsByBytes() {
        x = new NoTwoInOneRoom();
        due("highest byte first", x.sign(0x72637263), 4);
        due("palace", x.palace(), 4);
        for (int r = 0; r < 4; r++) due("room " + r, room(r, 0), r % 2);
        // a byte that is above 127 is a sign as well, and none of those that can stand
        for (int p = 0; p < 4; p++) {
            x.sign(0x72727272 | 0x80 << 24 - 8 * p);
            due("sign at " + p, x.palace(), -1 - p);
            x.sign(0x72727272 & ~(0xff << 24 - 8 * p));
            due("sign 0 at " + p, x.palace(), -1 - p);
        }
        x.sign(0x63727272);
        x.end(1);
        x.sign(0x72637272);
        due("behind what is left", x.palace(), 5);
        for (int r = 0; r < 5; r++) due("room " + r, room(r, 0), r == 0 || r == 2 ? 1 : 0);
    }

    private static void end() {
        promise = 3;
        x = new NoTwoInOneRoom();
        due("0 of 0", x.end(0), true);
        due("1 of 0", x.end(1), false);
        due("-1 of 0", x.end(-1), false);
        x.sign(0x72637262);
        due("5 of 4", x.end(5), false);
        due("-1 of 4", x.end(-1), false);
        due("least of 4", x.end(Integer.MIN_VALUE), false);
        due("greatest of 4", x.end(Integer.MAX_VALUE), false);
        due("signs", x.count(10), 4);
        due("4 of 4", x.end(4), true);
        due("signs", x.count(10), 4);
        due("3 of 4", x.end(3), true);
        due("signs", x.count(10), 3);
        due("4 of 3", x.end(4), false);
        due("the first three", x.palace(), 3);
        due("the second", room(1, 0), 1);
        x.sign(0x72637262);
        due("0 of 4", x.end(0), true);
        due("signs", x.count(10), 0);
        for (int k = 0; k < 20; k++) x.sign(0);
        due("81 of 80", x.end(81), false);
        due("80 of 80", x.end(80), true);
        due("79 of 80", x.end(79), true);
    }

    // ---- 4

    private static void palaceSigns() {
        promise = 4;
        x = new NoTwoInOneRoom();
        duePalace("", -1);
        for (int n = 1; n <= 6; n++) {
            duePalace(times("r", n), n);
            duePalace(times("c", n), n);
            due("rooms", x.count(0), n);
            due("the last", room(n - 1, 0), 1);
            due("none behind it", room(n, 0), THROWS);
        }
        duePalace(times("r", 7), -7);
        duePalace(times("c", 8), -7);
        duePalace(times("r", 80), -7);
        duePalace("rrrrrr;", -7);
        for (int p = 0; p < 6; p++) {
            for (char sign : new char[] {'q', 's', 'b', 'd', 'R', 'C', ' ', ';', 0, 127, 255}) {
                duePalace(times("r", p) + sign, -1 - p);
                duePalace(times("c", p) + sign + "rrrrrrrr", -1 - p);
            }
        }
        due("rooms are those of the last that was not refused", x.count(0), 6);
    }

    private static void palaceAnew() {
        // ROOMS that were taken are free, LEFT and WAITED are 0, nothing kept counts for as many new GROUPS
        fresh("rr", "0v1>99;0v1>11");
        x.off(0);
        x.minutes(9);
        x.off(1);
        x.minutes(3);
        x.keep(0);
        x.keep(1);
        duePalace("rr", 2);
        dueGroups("0v1>99;0v1>11", 2);
        due("nothing is kept", x.again(0), false);
        due("nothing is kept", x.again(1), false);
        for (int g = 0; g < 2; g++) {
            due("left", group(g, 5), 0);
            due("waited", group(g, 6), 0);
        }
        due("waited", x.count(6), 0);
        due("the first ROOM is free", x.off(1), 1);
        x.minute();
        due("so is the second", group(1, 4), 1);
        // without GROUPS as well
        fresh("r", "");
        x.keep(0);
        x.keep(1);
        x.stand(1);
        duePalace("r", 1);
        due("nothing is kept", x.again(0), false);
        due("nothing is kept", x.again(1), false);
        fresh("rc", "0v1>11;0w1>22");
        x.leave(0, 3);
        x.heard(0, 1, 0);
        x.off(0);
        x.minutes(2);
        x.keep(0);
        x.keep(1);
        duePalace("c", 1);
        int[] none = {1, 0, 0, 0, 0, 0, 0, 0, 0, 2, 0};
        for (int what = 0; what <= 10; what++) due("count " + what, x.count(what), none[what]);
        due("nothing can be undone", x.undo(), -1);
        due("nothing is kept", x.again(0), false);
        due("nothing is kept", x.again(1), false);
        due("room", room(0, 0), 1);
        due("room", room(1, 0), THROWS);
        dueGroups("0v1>4;0v1>5", 2);
        due("nothing is left out", group(0, 8), 0);
        due("outside", group(0, 4), -1);
        due("not through", group(0, 7), -1);
        due("not waited", group(0, 6), 0);
        due("stay", x.stay(0, 0), 4);
    }

    // ---- 5

    private static void dueLine(String line, int... first) {
        fresh("rcr", "");
        dueGroups(line, 1);
        for (int what = 0; what < first.length; what++) due(line + " what " + what, group(0, what), first[what]);
    }

    private static void lineSigns() {
        promise = 5;
        dueLine("0v1>000", 0, 0, 1, 0);
        dueLine("00w01<000", 0, 1, 1, 1);
        dueLine("9x9>999", 9, 2, 9, 0);
        dueLine("09y09<999", 9, 3, 9, 1);
        dueLine("10z10>123", 10, 4, 10, 0);
        dueLine("99z40<123", 99, 4, 40, 1);
        dueLine("98v39<123", 98, 0, 39, 1);
        due("minutes of the first room", x.stay(0, 0), 1);
        due("minutes of the last room", x.stay(0, 2), 3);
        fresh("rcr", "");
        // what stands just beside the signs that can stand, at each place
        String[] before = {"", "5", "5v", "5v4", "5v4>", "5v4>1", "5v4>11", "5v4>111"};
        String[] wrongSigns = {"/:v;-", "/:u{V;", "/:v;-", "/=?v;", "/:>;", "/:>;", "/:>;", "019v:<"};
        for (int k = 0; k < before.length; k++) {
            for (char sign : (wrongSigns[k] + (char) 0 + (char) 255).toCharArray()) {
                dueGroups(before[k] + sign, -1 - before[k].length());
                dueGroups(before[k] + sign + "5v4>111", -1 - before[k].length());
            }
        }
        dueGroups("55/", -3);
        dueGroups("555v4>111", -3);
        dueGroups("5v44>111", -4);
        dueGroups("5v111>111", -5);
        due("none came", x.count(1), 0);
    }

    private static void lineEnds() {
        fresh("rcr", "");
        String line = "12v34>567";
        for (int n = 1; n < line.length(); n++) dueGroups(line.substring(0, n), -1 - n);
        String two = line + ";8z9<000";
        for (int n = line.length() + 1; n < two.length(); n++) dueGroups(two.substring(0, n), -1 - n);
        due("none came", x.count(1), 0);
        dueGroups(two, 2);
    }

    private static void size() {
        fresh("r", "");
        for (int n = 0; n <= 99; n++) {
            fresh("r", "");
            String digits = String.valueOf(n);
            dueGroups("0v" + digits + ">1", n >= 1 && n <= 40 ? 1 : -2 - digits.length());
            dueGroups("0v" + digits + "<1;", n >= 1 && n <= 40 ? -6 - digits.length() : -2 - digits.length());
            if (n < 10) dueGroups("0v0" + n + ">1", n > 0 ? 1 : -4);
            if (n >= 1 && n <= 40) due("size", group(0, 2), n);
        }
        // the SIZE is wrong ahead of what is wrong behind it
        fresh("r", "");
        dueGroups("0v41", -4);
        dueGroups("0v41x", -4);
        dueGroups("0v411", -4);
        dueGroups("0v00x", -4);
        dueGroups("0v0x", -3);
        dueGroups("00v0x", -4);
        dueGroups("0v1>1;0v0>1", -9);
        dueGroups("0v1>1;0v50>1", -10);
    }

    private static void groupsOf76() {
        String five = times(LINE, 5);
        fresh("rrrrrr", "");
        dueGroups(five + "1v1>111111", 6);
        due("of 75", x.count(1), 6);
        fresh("rrrrrr", "");
        dueGroups(five + "1v10>111111", 6);
        due("of 76", x.count(1), 6);
        fresh("rrrrrr", "");
        // the first 76 could end: whatever stands behind them
        for (char sign : new char[] {'1', ';', 'x', 0, 255}) {
            dueGroups(five + "1v10>111111" + sign, -77);
            dueGroups(five + "1v10>111111" + sign + "v10", -77);
        }
        // the first 76 could go on
        dueGroups(five + "11v10>111111", -77);
        dueGroups(five + "11v10>11111x", -77);
        dueGroups(five + "11v10>11111xxx", -77);
        fresh("rr", "");
        dueGroups(times("11v10>11;", 8) + "11v1", -55);
        // .. where a number has one digit, where a LINE begins
        fresh("rrrrrr", "");
        String seventyFour = "1v1>111111;" + times("11v10>111111;", 4) + "11v10>11111";
        due("signs", seventyFour.length(), 74);
        dueGroups(seventyFour + "1", 6);
        fresh("rrrrrr", "");
        dueGroups(seventyFour + "1;x", -77);
        dueGroups(seventyFour + "1;1v1", -77);
        dueGroups(seventyFour + "1x1", -76);
        dueGroups(seventyFour + "x1;", -75);
        // what can't stand ahead of the 76th sign is told first
        dueGroups(five + "1v10>11111x1", -76);
        dueGroups(five + "1v10>111111".substring(0, 10) + ";1", -76);
        dueGroups(five + "1v10>1111x111", -75);
        dueGroups("x" + five + five.substring(0, 14), -1);
        dueGroups("1v41>111111" + times("1", 69), -4);
        due("none came", x.count(1), 0);
    }

    private static void roomForLines() {
        String line = "0v1>1;";
        for (int there = 0; there <= 6; there++) {
            fresh("r", "");
            if (there > 0) dueGroups(times(line, there).substring(0, 6 * there - 1), there);
            int more = 6 - there;
            due("groups", x.count(1), there);
            // one more than there is room for: at its first sign, whatever it is
            dueGroups(times(line, more) + "0v1>1", -1 - 6 * more);
            dueGroups(times(line, more) + "x", -1 - 6 * more);
            dueGroups(times(line, more + 2) + "x", -1 - 6 * more);
            if (more > 0) dueGroups(times(line, more), -1 - 6 * more);
            due("nothing of it came", x.count(1), there);
            if (more > 0) {
                // what is wrong ahead of it is told first
                dueGroups(times(line, more - 1) + "0v1>x;0v1>1", -1 - 6 * more + 2);
                dueGroups(times(line, more).substring(0, 6 * more - 1), more);
                due("all came", x.count(1), 6);
            }
        }
        x = new NoTwoInOneRoom();
        for (String text : new String[] {"0v1>1", "0v1>", "x", ";", "0"}) dueGroups(text, -1);
        dueGroups(times("1", 80), -1);
        dueGroups("", 0);
    }

    private static void nothingComes() {
        fresh("rr", "0v1>12;0v1>34");
        x.keep(0);
        x.off(0);
        x.minute();
        dueGroups("9z9<99;9z9<99;9z9<9x", -20);
        dueGroups("9z9<99;9z9<9", -13);
        dueGroups("9z9<99;9z41<99", -11);
        due("groups", x.count(1), 2);
        due("undo", x.count(8), 2);
        due("kept", x.again(0), true);
        due("no third", group(2, 0), THROWS);
        dueGroups("0w2<56", 1);
        int[] third = {0, 1, 2, 1, -1, 0, 0, -1, 0};
        for (int what = 0; what < 9; what++) due("group 2 what " + what, group(2, what), third[what]);
        due("stay", x.stay(2, 0), 5);
        due("stay", x.stay(2, 1), 6);
        due("the first is as told", x.stay(0, 1), 2);
    }

    private static void emptyGroups() {
        fresh("rr", "0v1>12");
        x.keep(1);
        x.stand(4);
        dueGroups("", 0);
        due("groups", x.count(1), 1);
        due("an empty one forgets nothing", x.count(8), 1);
        due("an empty one brings nobody", x.again(1), true);
        dueGroups("0v1>12", 1);
        due("groups came", x.again(1), false);
    }

    // ---- 6

    private static void ruleSigns() {
        promise = 6;
        fresh("rcr", "0v7>123;0v40<456");
        String things = "szrico0123456789";
        for (char sign = 0; sign < 256; sign++) {
            boolean thing = things.indexOf(sign) >= 0;
            dueRule("" + sign, thing ? 0 : sign == '-' || sign == '(' ? -2 : -1);
            boolean joins = "<>=+-*/".indexOf(sign) >= 0;
            dueRule("s" + sign + "s", joins ? 0 : -2);
            dueRule("(s" + sign + "s)", joins ? 0 : sign == ')' ? -4 : -3);
            dueRule("s+" + sign, thing ? 0 : sign == '-' || sign == '(' ? -4 : -3);
        }
        dueRule("9", 0);
        dueRule("q", -1);
        due("a refused one changes nothing", x.stay(0, 0), 9);
        dueRule("", 0);
        due("none: s", x.stay(1, 1), 5);
        due("none: s", x.stay(0, 2), 3);
    }

    private static void ruleBehindDigits() {
        fresh("r", "0v7>1");
        for (char sign = 0; sign < 256; sign++) {
            boolean digit = sign >= '0' && sign <= '9';
            boolean joins = "<>=+-*/".indexOf(sign) >= 0;
            dueRule("1" + sign, digit ? 0 : joins ? -3 : -2);
            dueRule("12" + sign, digit ? 0 : joins ? -4 : -3);
            dueRule("123" + sign, joins ? -5 : -4);
        }
    }

    /** A rule stays, whatever texts come behind it, till another one is told. */
    private static void ruleStays() {
        fresh("rcr", "0v7>123");
        dueRule("z-3", 0);
        for (String refused : new String[] {"q", "z+q", "99+", "9+9+9+9+"}) {
            text(refused);
            due("rule " + refused, x.rule() < 0, true);
            x.leave(0, 1);
            x.leave(0, 0);
            due("it is as it was ahead of the refused one", x.stay(0, 0), 4);
        }
        dueGroups("0v9>000", 1);
        due("for one that comes", x.stay(1, 0), 6);
        dueDay("m9;m9;m9;m9;m9", 5);
        x.sheet(0, 2, 2, 9, 0);
        due("whatever is told", x.stay(1, 0), 6);
        duePalace("cc", 2);
        due("rule and ROW stay", x.count(9), 2);
        dueGroups("0v11>99", 1);
        due("in a palace that is anew", x.stay(0, 1), 8);
        dueRule("", 0);
        due("none: s", x.stay(0, 1), 9);
        dueRule("s-1", 0);
        due("another", x.stay(0, 1), 8);
    }

    private static void ruleEnds() {
        String whole = "-(s+12*(z-3))/-r=(i<--c)";
        boolean[] fine = new boolean[whole.length() + 1];
        fine[13] = true;
        fine[16] = true;
        fine[whole.length()] = true;
        fresh("rcr", "0v7>123");
        for (int n = 1; n <= whole.length(); n++) dueRule(whole.substring(0, n), fine[n] ? 0 : -1 - n);
    }

    private static void ruleOf40() {
        fresh("rcr", "0v7>123");
        dueRule(times("-", 38) + "7", 0);
        due("39 signs", x.stay(0, 0), 7);
        dueRule(times("-", 39) + "7", 0);
        due("40 signs", x.stay(0, 0), 0);
        dueRule("s" + times("+1", 19) + "+", -41);
        dueRule("s" + times("+1", 18) + "+20", 0);
        due("40 signs", x.stay(0, 0), 30);
        dueRule("11" + times("+s", 19), 0);
        due("40 signs", x.stay(0, 0), 30);
        dueRule("3" + times("+0", 18) + "+99", 0);
        // the first 40 could end
        for (char sign : new char[] {'1', '+', 's', 'q', ')', 0, 255}) dueRule("1" + times("+0", 18) + "+11" + sign, -41);
        // the first 40 could go on
        dueRule(times("-", 40) + "7", -41);
        dueRule(times("-", 80), -41);
        dueRule("(" + times("-", 38) + "1)", -41);
        dueRule("s" + times("+s", 20), -41);
        dueRule("12345", -4);
        // what can't stand ahead of the 41st is told first
        dueRule("1" + times("+0", 18) + "+1q1", -40);
        dueRule("1" + times("+0", 18) + "++11", -39);
        dueRule("q" + times("-", 79), -1);
        due("a refused one changes nothing", x.stay(0, 0), 30);
    }

    private static void ruleNumbers() {
        fresh("rcr", "0v7>123");
        dueStay("0", 0);
        dueStay("7", 7);
        dueStay("07", 7);
        dueStay("29", 29);
        dueStay("007", 7);
        dueStay("100-99", 1);
        dueStay("999-998", 1);
        dueRule("1000", -4);
        dueRule("0007", -4);
        dueRule("s+1234", -6);
        dueRule("(9999)", -5);
        dueRule("-1234", -5);
        dueRule("1 2", -2);
    }

    private static void ruleDepth() {
        fresh("rcr", "0v7>123");
        dueStay("(s)", 1);
        dueStay("((((s+1))))", 2);
        dueStay("((((s))))+((((s))))", 2);
        dueStay("-(-(-(-(s))))", 1);
        dueStay("(1+(2+(3+(4+s))))", 11);
        dueRule("(((((s)))))", -5);
        dueRule("(1+(2+(3+(4+(5+s)))))", -13);
        dueRule("((((s))))+(((((s)))))", -15);
        dueRule("(((((", -5);
        dueRule("((((", -5);
        dueRule("((((s)))", -9);
        dueRule("((((s)))))", -10);
        dueRule(")", -1);
    }

    private static void ruleComparisons() {
        fresh("rcr", "0v7>123");
        int[][] less = {{1, 2, 1, 0, 0}, {2, 2, 0, 0, 1}, {3, 2, 0, 1, 0}};
        for (int[] l : less) {
            dueStay(l[0] + "<" + l[1], l[2]);
            dueStay(l[0] + ">" + l[1], l[3]);
            dueStay(l[0] + "=" + l[1], l[4]);
        }
        dueStay("-1<0", 1);
        dueStay("0>-1", 1);
        for (String one : new String[] {"<", ">", "="}) {
            for (String other : new String[] {"<", ">", "="}) {
                dueRule("s" + one + "z" + other + "r", -4);
                dueRule("(s" + one + "z" + other + "r)", -5);
                dueRule("s" + one + other + "z", -3);
                dueRule("(s" + one + "z)" + other + "(r" + one + "i)", 0);
                dueRule("s" + one + "(z" + other + "r)", 0);
            }
        }
        // they bind least
        dueStay("2+3>4", 1);
        dueStay("4<2+3", 1);
        dueStay("2*3=3+3", 1);
        dueStay("9*(2<1)", 0);
        dueStay("5+(2<1)", 5);
        dueStay("5+(2>1)", 6);
        dueStay("5+(2=1)", 5);
        dueStay("9*(1<2)", 9);
    }

    private static void ruleValues() {
        fresh("rcr", "0v7>123");
        dueStay("0-1", 0);
        dueStay("-1", 0);
        dueStay("1-1", 0);
        dueStay("2-1", 1);
        dueStay("28+1", 29);
        dueStay("29+1", 30);
        dueStay("30+1", 30);
        dueStay("999*999", 30);
        // as ints: 999 * 999 * 999 * 3 is 2991008997, which is below 0 as an int
        dueStay("999*999*999*2", 30);
        dueStay("999*999*999*3", 0);
        dueStay("-(999*999*999*3)", 30);
        // 512 * 512 * 512 * 16 is the least int, and so is what is less it
        dueStay("512*512*512*16", 0);
        dueStay("-(512*512*512*16)", 0);
        dueStay("512*512*512*16/-1", 0);
        dueStay("512*512*512*16/-1+1<0", 1);
        dueStay("512*512*512*16-1", 30);
        dueStay("512*512*512*32+5", 5);
        // by 0: 0
        dueStay("9/0", 0);
        dueStay("0/0+3", 3);
        dueStay("9/(s-1)+2", 2);
        dueStay("9/0*9+1", 1);
        dueStay("9/1", 9);
        dueStay("9/-1+9", 0);
        // cut to 0
        dueStay("7/2", 3);
        dueStay("-7/2+5", 2);
        dueStay("7/-2+5", 2);
        dueStay("-7/-2", 3);
        dueStay("1/2", 0);
        dueStay("-1/2+5", 5);
    }

    private static void ruleOrderOfReckoning() {
        fresh("rcr", "0v7>123");
        dueStay("9-4-3", 2);
        dueStay("9-4+3", 8);
        dueStay("24/4/3", 2);
        dueStay("24/4*3", 18);
        dueStay("7*3/2", 10);
        dueStay("2+3*4", 14);
        dueStay("3*4+2", 14);
        dueStay("20-8/4", 18);
        dueStay("--7", 7);
        dueStay("---7+9", 2);
        dueStay("9--7", 16);
        dueStay("9---7", 2);
        dueStay("3*--7", 21);
        dueStay("9+-7", 2);
        fresh("rcr", "0v7>123;0v40<456");
        dueRule("s*4+r", 0);
        due("s and r", x.stay(1, 2), 26);
        dueRule("i*9+z/10", 0);
        due("i and z", x.stay(1, 0), 13);
        due("i and z", x.stay(0, 0), 0);
        dueRule("c*3+o*5", 0);
        int[] want = {0, 3, 0, 5, 8, 5};
        for (int k = 0; k < 6; k++) due("c and o " + k, x.stay(k / 3, k % 3), want[k]);
        x.leave(1, 2);
        due("left out: 0, whatever the rule says", x.stay(1, 1), 0);
        due("not left out", x.stay(1, 0), 5);
    }

    private static void dueStay(String rule, int want) {
        dueRule(rule, 0);
        due(rule + " of 0 in 0", x.stay(0, 0), want);
    }

    // ---- 17, 21

    private static void daySigns() {
        promise = 17;
        fresh("r", "0v1>1");
        for (char sign = 0; sign < 256; sign++) {
            boolean digit = sign >= '0' && sign <= '9';
            boolean letter = sign >= 'a' && sign <= 'f';
            boolean kind = sign == 'm' || sign == 'o' || sign == 'v' || sign == 'p';
            dueFault("" + sign, kind ? 1 : 0);
            dueFault("m" + sign + "x", digit ? 2 : 1);
            dueFault("m1" + sign + "x", digit ? 3 : sign == ';' ? 3 : 2);
            dueFault("m11" + sign + "x", sign == ';' ? 4 : 3);
            dueFault("o" + sign + "x", letter ? 2 : 1);
            dueFault("oa" + sign + "x", sign == ';' ? 3 : 2);
            dueFault("v" + sign + "x", letter ? 2 : 1);
            dueFault("va" + sign + "x", digit && sign != '0' ? 3 : 2);
            dueFault("va1" + sign + "x", sign == ';' ? 4 : 3);
            dueFault("p" + sign + "x", digit && sign != '0' ? 2 : 1);
            dueFault("p1" + sign + "x", sign == ';' ? 3 : 2);
        }
        String whole = "m0;m12;oa;vb9;p1";
        int[] ends = {2, 5, 6, 9, 13, 16};
        for (int n = 1, k = 0; n <= whole.length(); n++) {
            if (n == ends[k]) k++;
            else dueFault(whole.substring(0, n), n);
        }
        due("nothing is done", x.count(2), 0);
        due("nothing is done", x.count(8), 0);
    }

    private static void dueFault(String day, int p) {
        dueDay(day, -1 - p);
    }

    private static void dayOf60() {
        fresh("r", "0v1>1");
        String start = times("m1;", 19);
        dueDay(start + "m1", 20, 0, 0);
        due("59 signs", x.count(2), 20);
        x.undo();
        dueDay(start + "m10", 20, 0, 0);
        due("60 signs", x.count(2), 29);
        x.undo();
        due("now", x.count(2), 0);
        // the first 60 could end
        for (char sign : new char[] {';', '1', 'x', 0, 255}) {
            dueFault(start + "m10" + sign, 60);
            dueFault(start + "m10" + sign + times("m1;", 6), 60);
        }
        // the first 60 could go on
        dueFault(start + "m1;", 60);
        dueFault(start + "m1;m1", 60);
        dueFault(start + "m1;x", 60);
        dueFault(times("m1;", 18) + "m11;p1;", 60);
        dueFault(times("m1;", 18) + "m1;m1;m1", 60);
        dueFault("m11;" + times("m1;", 18) + "va1", 60);
        dueFault("m11;" + times("m1;", 18) + "vax", 60);
        dueFault("m11;m11;" + times("m1;", 17) + "o", 60);
        dueFault("m11;m11;" + times("m1;", 17) + "ox", 60);
        // what can't stand ahead of the 61st is told first
        dueFault(start + "m1x1", 59);
        dueFault(start + "mx11", 58);
        dueFault(start + "x111", 57);
        dueFault("x" + times("m1;", 26), 0);
        due("nothing is done", x.count(2), 0);
    }

    private static void orderSigns() {
        promise = 21;
        fresh("c", "0v1>1;0v1>1;0v1>1");
        dueOrder("", -1);
        for (char sign = 0; sign < 256; sign++) {
            boolean there = sign >= 'a' && sign <= 'c';
            dueOrder("" + sign, there ? 1 : -1);
            dueOrder("a" + sign, sign == 'b' || sign == 'c' ? 1 : -2);
            dueOrder("abc" + sign, -4);
        }
        dueOrder("abca", -4);
        dueOrder("abb", -3);
        dueOrder("aa", -2);
        fresh("c", times("0v1>1;", 5) + "0v1>1");
        dueOrder("abcdef", 1, 1, 1, 1, 1, 1, 1, 0);
        dueOrder("fedcba", 1, 1, 1, 1, 1, 1, 1, 0);
        dueOrder("g", -1);
        dueOrder("`", -1);
        dueOrder("abcdefa", -7);
        dueOrder("abcdefg", -7);
        dueOrder("abcdef;", -7);
        dueOrder(times("abcdef", 13), -7);
        dueOrder("abcdeaf", -6);
        // faults are asked ahead of who is not OUTSIDE
        x.off(0);
        dueOrder("ag", -2);
        dueOrder("aa", -2);
        dueOrder("a", -100);
        dueOrder("ba", -100);
        dueOrder("b", 1, 1, 0);
        x.minute();
        due("through", group(0, 4), 9);
        dueOrder("ba", -100);
    }
}
