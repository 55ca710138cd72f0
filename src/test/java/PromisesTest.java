/** Each promise of the document by itself: ordinary calls, the edges that it names, wrong inputs; answers reckoned by hand. */
public final class PromisesTest extends Asking {
    public static void main(String[] args) {
        newObject();
        sign();
        end();
        palace();
        groups();
        groupsLimits();
        rule();
        ruleFaults();
        group();
        room();
        stay();
        leave();
        sheet();
        off();
        over();
        stand();
        minute();
        minuteSteps();
        minutes();
        day();
        dayFaults();
        undo();
        where();
        stuck();
        order();
        best();
        calm();
        many();
        gap();
        smooth();
        every();
        least();
        late();
        slack();
        dies();
        loss();
        pairs();
        brief();
        heard();
        forget();
        fits();
        began();
        season();
        keep();
        again();
        count();
        row();
        wildArguments();
        finish("all promises are kept");
    }

    // ---- the promises

    private static void newObject() {
        promise = 1;
        x = new NoTwoInOneRoom();
        for (int what = 0; what <= 10; what++) due("count " + what, x.count(what), 0);
        due("group", group(0, 0), THROWS);
        due("room", room(0, 0), THROWS);
        due("row", row(0), THROWS);
        due("undo", x.undo(), -1);
        due("again", x.again(0), false);
        due("stay", x.stay(0, 0), -1);
        due("off", x.off(0), -1);
        due("NONE", NoTwoInOneRoom.NONE, -1);
    }

    private static void sign() {
        promise = 2;
        x = new NoTwoInOneRoom();
        due("sign", x.sign(('r' << 24) | ('c' << 16) | ('r' << 8) | 'r'), 4);
        due("palace", x.palace(), 4);
        due("second sign", room(1, 0), 1);
        due("third sign", room(2, 0), 0);
        due("a high byte", x.sign(0xff726372), 4);
        due("palace", x.palace(), -1);
        for (int k = 1; k <= 20; k++) due("sign", x.sign(0x72727272), 4 * k);
        due("81 .. 84", x.sign(0x72727272), -1);
        due("signs", x.count(10), 80);
        x.end(77);
        due("78 .. 81", x.sign(0), -1);
        due("signs", x.count(10), 77);
        x.end(76);
        due("77 .. 80", x.sign(0), 80);
    }

    private static void end() {
        promise = 3;
        x = new NoTwoInOneRoom();
        due("end 0", x.end(0), true);
        due("end 1", x.end(1), false);
        x.sign(0x72720000);
        due("end 5", x.end(5), false);
        due("end -1", x.end(-1), false);
        due("signs", x.count(10), 4);
        due("end 4", x.end(4), true);
        due("end 2", x.end(2), true);
        due("end 3", x.end(3), false);
        due("palace", x.palace(), 2);
    }

    private static void palace() {
        promise = 4;
        fresh("rc", "0v1>11");
        x.heard(0, 1, 0);
        x.keep(0);
        x.stand(5);
        x.minutes(3);
        text("z");
        due("rule", x.rule(), 0);
        duePalace("", -1);
        duePalace("rrrrrrr", -7);
        duePalace("rrrrrrx", -7);
        duePalace("rrxrrrr", -3);
        duePalace("R", -1);
        duePalace("rc;", -3);
        due("rooms stay when refused", x.count(0), 2);
        due("now stays when refused", x.count(2), 8);
        due("undo stays when refused", x.count(8), 2);
        dueRow(0, 0);
        duePalace("crcrcr", 6);
        due("corridor", room(0, 0), 1);
        due("room", room(5, 0), 0);
        due("rooms", x.count(0), 6);
        due("groups", x.count(1), 0);
        due("now", x.count(2), 0);
        due("heard", x.count(7), 0);
        due("undo", x.count(8), 0);
        due("kept", x.again(0), false);
        dueGroups("0v7>111111", 1);
        due("the rule is as it was", x.stay(0, 3), 7);
        due("nothing is left out for one that comes", group(0, 8), 0);
    }

    private static void groups() {
        promise = 5;
        fresh("rcr", "");
        dueGroups("", 0);
        dueGroups("7v9>123;42z40<456", 2);
        due("comes", group(0, 0), 7);
        due("tongue", group(1, 1), 4);
        due("size", group(1, 2), 40);
        due("way", group(0, 3), 0);
        due("way", group(1, 3), 1);
        due("told", x.stay(1, 0), 4);
        due("told", x.stay(1, 2), 6);
        dueGroups("00v01>000", 1);
        due("comes", group(2, 0), 0);
        due("size", group(2, 2), 1);
        dueGroups("x", -1);
        dueGroups("1", -2);
        dueGroups("123", -3);
        dueGroups("1u", -2);
        dueGroups("1v", -3);
        dueGroups("1v>", -3);
        dueGroups("1v0>111", -3);
        dueGroups("1v00>111", -4);
        dueGroups("1v41>111", -4);
        dueGroups("1v99>111", -4);
        dueGroups("1v123>111", -5);
        dueGroups("1v4", -4);
        dueGroups("1v4=", -4);
        dueGroups("1v4>", -5);
        dueGroups("1v4>11", -7);
        dueGroups("1v4>11;", -7);
        dueGroups("1v4>1111", -8);
        dueGroups("1v4>111;", -9);
        dueGroups("1v4>111;;", -9);
        dueGroups(";1v4>111", -1);
        dueGroups("1v4>111;1v4>11x", -15);
        due("nothing of it came", x.count(1), 3);
        dueGroups("1v4>111;1v4>111;1v4>111;1v4>111", -25);
        due("nothing of it came", x.count(1), 3);
        dueGroups("1v4>111;1v4>111;1v4>111", 3);
        dueGroups("1v4>111", -1);
        x = new NoTwoInOneRoom();
        dueGroups("1v4>1", -1);
        dueGroups("", 0);
    }

    private static void groupsLimits() {
        String six = times("11v10>111111;", 5);
        fresh("rrrrrr", "");
        dueGroups(six + "1v10>111111", 6);
        fresh("rrrrrr", "");
        dueGroups(six + "11v10>111111", -77);
        dueGroups(six + "1v10>111111;", -77);
        dueGroups(six + "1v10>111111x", -77);
        dueGroups(six + "1v10>11111x1", -76);
        dueGroups(six + "111v10>11111", -68);
        dueGroups(times("1v1>111111;", 6) + "1v1", -67);
        dueGroups(six + "1v0", -68);
        dueGroups(six + "1v0>111111;x", -68);
        due("nothing of it came", x.count(1), 0);
    }

    private static void rule() {
        promise = 6;
        fresh("rcr", "0v7>123;0v40<456");
        dueStays("", 1, 5);
        dueStays("z", 7, 30);
        dueStays("s*2+r", 2, 11);
        dueStays("r+s*2", 2, 11);
        dueStays("(r+s)*2", 2, 12);
        dueStays("9-3-2", 4, 4);
        dueStays("20/3/2", 3, 3);
        dueStays("7*3/2", 10, 10);
        dueStays("7/2*2", 6, 6);
        dueStays("5/0+1", 1, 1);
        dueStays("5-7/2", 2, 2);
        dueStays("9+-7/2", 6, 6);
        dueStays("-7/2+9", 6, 6);
        dueStays("---3+9", 6, 6);
        dueStays("2--3", 5, 5);
        dueStays("2*-3+9", 3, 3);
        dueStays("0-1", 0, 0);
        dueStays("31", 30, 30);
        dueStays("999*999*999*999", 0, 0);
        dueStays("s<4", 1, 0);
        dueStays("s>4", 0, 1);
        dueStays("s=5", 0, 1);
        dueStays("s<5", 1, 0);
        dueStays("s>5", 0, 0);
        dueStays("123/10", 12, 12);
        dueStays("s+1>4-1", 0, 1);
        dueStays("(s>4)*9+1", 1, 10);
        dueStays("(1<2)<(2<1)", 0, 0);
        dueStays("i*3+2", 2, 5);
        dueStays("c*4+o*8", 0, 12);
        dueStays("((((s))))", 1, 5);
        dueStays("(((s)))+(((s)))", 2, 10);
        dueStays("007", 7, 7);
        dueStays("", 1, 5);
    }

    /** STAYS of GROUP 0 in ROOM 0 and of GROUP 1 in ROOM 1 by a rule. */
    private static void dueStays(String rule, int one, int other) {
        dueRule(rule, 0);
        due(rule + " of 0 in 0", x.stay(0, 0), one);
        due(rule + " of 1 in 1", x.stay(1, 1), other);
    }

    private static void ruleFaults() {
        dueRule("z", 0);
        dueRule("q", -1);
        dueRule("+s", -1);
        dueRule("s+", -3);
        dueRule("s++s", -3);
        dueRule("s s", -2);
        dueRule("sz", -2);
        dueRule("s1", -2);
        dueRule("1s", -2);
        dueRule("-", -2);
        dueRule("1234", -4);
        dueRule("(s", -3);
        dueRule("s)", -2);
        dueRule("()", -2);
        dueRule("(s))", -4);
        dueRule("(((((s)))))", -5);
        dueRule("s<z<r", -4);
        dueRule("(s<z=r)", -5);
        dueRule("s<", -3);
        dueRule("s<=z", -3);
        dueRule("s*/z", -3);
        due("the rule is as it was", x.stay(0, 0), 7);
        dueRule(times("-", 38) + "sx", -40);
        dueRule(times("-", 39) + "s", 0);
        dueRule(times("-", 40) + "s", -41);
        dueRule("s" + times("+s", 20), -41);
        dueRule("s" + times("+s", 19) + "+", -41);
        dueRule("s" + times("+s", 19) + "s", -40);
        dueRule(times("+", 41), -1);
        due("the rule is that of 40 signs", x.stay(0, 0), 0);
    }

    private static void group() {
        promise = 7;
        fresh("rr", "3x12<45;0v1>11");
        int[] first = {3, 2, 12, 1, -1, 0, 0, -1, 0};
        for (int what = 0; what < 9; what++) due("group 0 " + what, group(0, what), first[what]);
        x.leave(0, 1);
        x.minutes(4);
        x.off(0);
        int[] then = {3, 2, 12, 1, 1, 5, 0, -1, 1};
        for (int what = 0; what < 9; what++) due("group 0 " + what, group(0, what), then[what]);
        x.off(1);
        x.minutes(2);
        due("waited", group(1, 6), 2);
        x.undo();
        x.undo();
        x.minutes(6);
        int[] last = {3, 2, 12, 1, 9, 0, 0, 8, 1};
        for (int what = 0; what < 9; what++) due("group 0 " + what, group(0, what), last[what]);
        due("no such what", group(0, 9), THROWS);
        due("no such what", group(0, -1), THROWS);
        due("none such", group(2, 0), THROWS);
        due("none such", group(-1, 0), THROWS);
    }

    private static void room() {
        promise = 8;
        fresh("cr", "0v1>34;0v1>19;0v1<25");
        due("corridor", room(0, 0), 1);
        due("room", room(1, 0), 0);
        x.off(0);
        x.off(1);
        x.off(2);
        due("both in the corridor", room(0, 1), 3);
        due("one in the room", room(1, 1), 4);
        due("stays", room(0, 2), 6);
        due("stays", room(1, 2), 18);
        x.leave(1, 2);
        due("stays", room(1, 2), 9);
        x.minutes(90);
        due("all are through", x.count(5), 7);
        due("of those that are through as well", room(1, 2), 9);
        due("no such room", room(2, 0), THROWS);
        due("no such room", room(-1, 0), THROWS);
        due("no such what", room(0, 3), THROWS);
        due("no such what", room(0, -1), THROWS);
    }

    private static void stay() {
        promise = 9;
        fresh("rr", "0v1>34");
        due("stay", x.stay(0, 0), 3);
        due("stay", x.stay(0, 1), 4);
        due("no room", x.stay(0, 2), -1);
        due("no room", x.stay(0, -1), -1);
        due("no group", x.stay(1, 0), -1);
        due("no group", x.stay(-1, 0), -1);
        dueRule("s*5", 0);
        due("stay", x.stay(0, 1), 20);
        x.leave(0, 2);
        due("left out", x.stay(0, 1), 0);
    }

    private static void leave() {
        promise = 10;
        fresh("rr", "0v1>34;0v1>12");
        due("leave", x.leave(0, 2), 0);
        due("leave", x.leave(0, 1), 2);
        due("it is in none but the new", x.stay(0, 1), 4);
        due("left out", x.stay(0, 0), 0);
        due("of the other none", group(1, 8), 0);
        due("no such room", x.leave(0, 4), -1);
        due("below 0", x.leave(0, -1), -1);
        due("no such group", x.leave(2, 0), -1);
        due("no such group", x.leave(-1, 0), -1);
        due("as it was", group(0, 8), 1);
        due("off", x.off(0), 1);
        due("left", group(0, 5), 0);
        x.leave(0, 0);
        due("in the room all is as it was", group(0, 5), 0);
        due("minute", x.minute(), 0);
        due("it stepped on", group(0, 4), 1);
        due("left", group(0, 5), 4);
        x.leave(0, 3);
        due("undo", x.undo(), 1);
        due("leaving out is not undone", group(0, 8), 3);
    }

    private static void sheet() {
        promise = 11;
        fresh("rr", "0v1>34;0v1>12;0v1>56");
        due("ints", x.sheet(0, 2, 3, 5, -3), 7);
        due("first", x.stay(0, 0), 5);
        due("second", x.stay(1, 0), 2);
        due("third is below 0", x.stay(2, 0), 0);
        due("the other room", x.stay(2, 1), 6);
        due("fewer", x.sheet(1, 2, 1, 12, 0), 9);
        due("put to 9", x.stay(0, 1), 9);
        due("behind it 0", x.stay(1, 1), 0);
        due("bytes", x.sheet(0, 0, 3, 254, 1), 0);
        due("bytes", x.sheet(0, 0, 3, 255, 2), 4);
        due("shorts", x.sheet(0, 1, 3, 65535, 2), 4);
        due("shorts", x.sheet(0, 1, 3, 255, 1), 27);
        due("ints", x.sheet(0, 2, 3, 65535, 2), 27);
        due("wrapping", x.sheet(0, 2, 2, Integer.MAX_VALUE, 1), 9);
        due("of more entries than groups", x.sheet(0, 2, 6, 1, 1), 6);
        due("none", x.sheet(0, 2, 0, 1, 1), 0);
        due("all are 0", room(0, 2), 0);
        due("again", x.sheet(0, 2, 3, 1, 1), 6);
        due("below 0", x.sheet(0, 2, -1, 1, 1), -2);
        due("nothing changed", room(0, 2), 6);
        due("another kind", x.sheet(0, 4, 1, 1, 1), -1);
        due("another kind", x.sheet(0, -1, -1, 1, 1), -1);
        due("7 entries", x.sheet(0, 0, 7, 1, 1), -1);
        due("7 entries of a missing one", x.sheet(0, 3, 7, 1, 1), -1);
        due("no such room", x.sheet(2, 0, -1, 1, 1), -1);
        due("no such room", x.sheet(-1, 3, 1, 1, 1), -1);
        due("nothing changed", room(0, 2), 6);
        due("missing", x.sheet(0, 3, 2, 1, 1), -3);
        due("all are 0", room(0, 2), 0);
        due("again", x.sheet(0, 2, 3, 1, 1), 6);
        due("missing", x.sheet(0, 3, -1, 1, 1), -3);
        due("all are 0", room(0, 2), 0);
        // a ROOM that is left out stays so
        x.leave(1, 1);
        due("again", x.sheet(0, 2, 3, 1, 1), 6);
        due("left out", x.stay(1, 0), 0);
        due("left out", group(1, 8), 1);
        x.leave(1, 0);
        due("as the sheet told", x.stay(1, 0), 2);
        fresh("r", "");
        due("no groups", x.sheet(0, 2, 3, 1, 1), 0);
    }

    private static void off() {
        promise = 12;
        fresh("rc", "0v1>34;2v1>12;0v1<11;5v1<11");
        due("none such", x.off(4), -1);
        due("none such", x.off(-1), -1);
        due("not yet", x.off(1), -3);
        due("off", x.off(0), 1);
        due("not outside ahead of not free", x.off(0), -2);
        due("not come ahead of not free", x.off(1), -3);
        x.stand(2);
        due("not free", x.off(1), -4);
        due("from behind", x.off(2), 2);
        due("where", group(2, 4), 1);
        x.stand(3);
        due("a corridor holds any many", x.off(3), 3);
        due("refused are not kept", x.count(8), 5);
        x.minutes(90);
        due("through", x.off(2), -2);
    }

    private static void over() {
        promise = 13;
        fresh("r", "0v1>3;0v1>1");
        due("outside", x.over(0, 1), -1);
        x.off(0);
        due("over", x.over(0, 2), 5);
        due("left", group(0, 5), 5);
        due("0", x.over(0, 0), -1);
        due("31", x.over(0, 31), -1);
        due("none such", x.over(2, 1), -1);
        due("none such", x.over(-1, 1), -1);
        due("over", x.over(0, 30), 35);
        due("over", x.over(0, 30), 65);
        due("over", x.over(0, 30), 95);
        due("99 at most", x.over(0, 30), 99);
        due("99 at most", x.over(0, 1), 99);
        due("each is kept", x.count(8), 7);
        x.minutes(90);
        x.minutes(9);
        due("through", x.over(0, 1), -1);
    }

    private static void stand() {
        promise = 14;
        fresh("r", "3v1>3");
        due("0", x.stand(0), -1);
        due("61", x.stand(61), -1);
        due("below 0", x.stand(-5), -1);
        due("60", x.stand(60), 60);
        due("1", x.stand(1), 61);
        x.off(0);
        x.stand(9);
        due("now", x.count(2), 70);
        due("left as it was", group(0, 5), 3);
        due("nothing waited", x.count(6), 0);
    }

    private static void minute() {
        promise = 15;
        fresh("rr", "0v1>12;0v1>11");
        x.off(0);
        due("minute", x.minute(), 0);
        dueRow(1, 0);
        x.off(1);
        due("minute", x.minute(), 0);
        dueRow(0, 2);
        due("waited", group(1, 6), 1);
        due("minute", x.minute(), 1);
        dueRow(3, 0);
        due("through in minute 2", group(0, 7), 2);
        due("now", x.count(2), 3);
        due("minute", x.minute(), 1);
        dueRow(2, 0);
        due("minute", x.minute(), 0);
        dueRow(0, 0);
    }

    private static void minuteSteps() {
        // the first by numbers steps; one of STAY 0 steps on at once; a room that gets free is entered in the same MINUTE
        fresh("crr", "0v1>100;0v1>111;0v1>131");
        x.off(2);
        x.off(1);
        x.minute();
        dueRow(2, 4);
        due("the lesser number is ahead", group(1, 4), 1);
        x.minute();
        due("both stepped", row(0), 6);
        due("third is in the room", group(2, 4), 1);
        x.off(0);
        x.minute();
        dueRow(2, 1);
        due("second is through", group(1, 4), 9);
        x.minutes(2);
        due("third steps, the first behind it", group(2, 4), 2);
        due("first", group(0, 4), 1);
        due("waited", group(0, 6), 3);
        due("minute", x.minute(), 2);
        due("through at once", group(0, 7), 5);
        // one from the front and one from behind stand for ever
        fresh("rr", "0v1>11;0v1<11");
        x.off(0);
        x.off(1);
        x.minutes(9);
        due("waited", x.count(6), 18);
        // four rooms of STAY 0 in one MINUTE
        fresh("rrrr", "0v1>0000");
        x.off(0);
        due("in the first", group(0, 4), 0);
        due("through", x.minute(), 1);
        dueRow(1, 0);
        due("through in 0", group(0, 7), 0);
    }

    private static void minutes() {
        promise = 16;
        fresh("rr", "0v1>12;0v1>13;0v1>11");
        x.off(0);
        due("0", x.minutes(0), 0);
        dueRow(0, 0);
        due("0 is not kept", x.count(8), 1);
        due("1", x.minutes(1), 0);
        x.off(1);
        due("3", x.minutes(3), 1);
        dueRow(1, 1);
        due("now", x.count(2), 4);
        x.off(2);
        due("90", x.minutes(90), 2);
        dueRow(6, 1);
        due("now", x.count(2), 94);
        due("91", x.minutes(91), -1);
        due("-1", x.minutes(-1), -1);
        dueRow(6, 1);
        due("as one", x.count(8), 6);
    }

    private static void day() {
        promise = 17;
        fresh("rr", "0v1>12;2v1>13");
        dueDay("", 0);
        dueRow(0, 0);
        due("nothing is kept", x.count(8), 0);
        dueDay("oa;m1;va9;p9;m90;ob;m05", 7);
        dueRow(0, 2);
        due("now", x.count(2), 105);
        due("left ran over", group(0, 7), 20);
        due("as one", x.count(8), 1);
        due("undo", x.undo(), 0);
        due("all are outside", x.count(3), 3);
        dueDay("ob;m5", 0);
        dueRow(1, 0);
        due("nothing was done", x.count(8), 0);
        dueDay("m0", 1);
        dueRow(0, 0);
        due("m0 was done", x.count(8), 1);
        dueDay("m91;oa", 0);
        dueRow(1, 0);
        dueDay("oa;m3;of;m3", 2);
        dueRow(1, 1);
        dueDay("va1", 0);
        dueDay("vf1", 0);
        due("now", x.count(2), 3);
    }

    private static void dayFaults() {
        fresh("rr", "0v1>12");
        dueDay("x", -1);
        dueDay("m", -2);
        dueDay("mx", -2);
        dueDay("m1x", -3);
        dueDay("m123", -4);
        dueDay("o", -2);
        dueDay("og", -2);
        dueDay("oab", -3);
        dueDay("v", -2);
        dueDay("v1", -2);
        dueDay("va", -3);
        dueDay("va0", -3);
        dueDay("va12", -4);
        dueDay("p0", -2);
        dueDay("p12", -3);
        dueDay("oa;", -4);
        dueDay("oa;;m1", -4);
        dueDay(";oa", -1);
        dueDay("oa;m1;x", -7);
        dueDay("oa;m1;p", -8);
        due("nothing was done", x.count(3), 1);
        due("nothing was done", x.count(8), 0);
        dueDay(times("m1;", 19) + "m10", 20);
        dueDay(times("m1;", 20), -61);
        dueDay(times("m1;", 20) + "m1", -61);
        dueDay(times("m1;", 19) + "m101", -61);
        dueDay(times("m1;", 19) + "m1;x", -61);
        dueDay(times("m1;", 19) + "m1x;", -60);
        dueDay(times("m1;", 19) + "v1x;", -59);
        due("nothing more was done", x.count(2), 29);
    }

    private static void undo() {
        promise = 18;
        fresh("rr", "0v1>12;9v1>13");
        due("none", x.undo(), -1);
        x.off(0);
        x.over(0, 3);
        x.stand(4);
        x.minute();
        x.minutes(4);
        text("m1");
        x.day();
        due("six", x.count(8), 6);
        due("undo day", x.undo(), 5);
        due("now", x.count(2), 9);
        due("undo minutes", x.undo(), 4);
        due("now", x.count(2), 5);
        due("where", group(0, 4), 0);
        due("undo minute", x.undo(), 3);
        due("left", group(0, 5), 4);
        due("undo stand", x.undo(), 2);
        due("now", x.count(2), 0);
        due("undo over", x.undo(), 1);
        due("left", group(0, 5), 1);
        due("undo off", x.undo(), 0);
        due("outside", group(0, 4), -1);
        for (int k = 1; k <= 20; k++) x.stand(k);
        due("12 at most", x.count(8), 12);
        for (int k = 11; k >= 0; k--) due("undo", x.undo(), k);
        due("none", x.undo(), -1);
        due("eight are left", x.count(2), 36);
        x.off(0);
        x.minutes(3);
        due("through", group(0, 7), 38);
        x.undo();
        due("not through", group(0, 7), -1);
        x.minute();
        dueGroups("", 0);
        due("an empty groups() does not forget", x.count(8), 2);
        dueGroups("x", -1);
        due("nor a refused one", x.count(8), 2);
        duePalace("x", -1);
        due("nor a refused palace()", x.count(8), 2);
        due("refused", x.again(0), false);
        due("nor a refused again()", x.count(8), 2);
        dueGroups("0v1>11", 1);
        due("groups() forgets", x.count(8), 0);
        x.keep(0);
        x.minute();
        x.again(0);
        due("again() forgets", x.count(8), 0);
        x.minute();
        duePalace("r", 1);
        due("palace() forgets", x.undo(), -1);
    }

    private static void where() {
        promise = 19;
        fresh("rr", "0v1>12;0v1>14;0v1<11");
        x.off(0);
        due("now", x.where(0, 0), 0);
        dueRow(1, 0);
        due("in 1", x.where(0, 1), 1);
        dueRow(2, 0);
        due("in 3", x.where(0, 3), 9);
        dueRow(0, 0);
        x.minute();
        x.off(1);
        due("in 1", x.where(1, 1), 0);
        dueRow(0, 1);
        due("in 400", x.where(1, 400), 9);
        dueRow(0, 1);
        due("outside", x.where(2, 400), -1);
        dueRow(0, 0);
        due("401", x.where(0, 401), -2);
        due("-1", x.where(0, -1), -2);
        due("none such", x.where(3, 1), -3);
        due("none such", x.where(-1, 1), -3);
        due("n ahead of the group", x.where(3, 401), -2);
        due("nothing changes", x.count(2), 1);
    }

    private static void stuck() {
        promise = 20;
        fresh("rrr", "0v1>122;0v1<221;0v1>111");
        due("none", x.stuck(), 0);
        dueRow(0);
        x.off(0);
        due("nobody", x.stuck(), 0);
        dueRow(5);
        x.minutes(3);
        due("left the second", group(0, 4), 2);
        x.off(2);
        due("nobody", x.stuck(), 0);
        dueRow(3);
        x.undo();
        x.undo();
        x.off(1);
        due("both", x.stuck(), 3);
        dueRow(0);
        fresh("crcr", "0v1>1111;0v1<1111;0v1>9111");
        x.off(0);
        x.minutes(2);
        x.off(1);
        x.off(2);
        due("all get through", x.stuck(), 0);
        fresh("crr", "0v1>911;0v1>111;0v1<511");
        x.off(1);
        x.off(2);
        x.minute();
        x.off(0);
        due("three", x.stuck(), 7);
        dueRow(0);
        fresh("crrcr", "0v1>11111;0v1>11111;0v1<11111");
        x.off(0);
        x.minutes(3);
        x.off(1);
        x.minute();
        x.off(2);
        due("one that is through, and none other", x.stuck(), 0);
        fresh("r", "0v1>1;0v1>1");
        x.off(0);
        x.minutes(4);
        due("nobody is in a room", x.stuck(), 0);
        dueRow(0);
        x.off(1);
        due("one is", x.stuck(), 0);
        dueRow(1);
    }

    private static void order() {
        promise = 21;
        fresh("rr", "0v9>32;0w5>14;2v8<22");
        dueOrder("ab", 9, 5, 9, 1);
        dueOrder("ba", 7, 5, 7, 1);
        dueOrder("c", 6, 6, 0);
        dueOrder("b", 5, 5, 0);
        dueOrder("", -1);
        dueOrder("d", -1);
        dueOrder("aa", -2);
        dueOrder("abx", -3);
        dueOrder("abcabc", -4);
        dueOrder("A", -1);
        due("the row stays when refused", x.count(9), 2);
        dueOrder("ac", -200);
        due("questions change nothing", x.count(2), 0);
        x.off(0);
        dueOrder("ab", -100);
        dueOrder("ad", -2);
        dueOrder("b", 9, 9, 1);
        x.minutes(3);
        dueOrder("b", 6, 6, 1);
        dueOrder("c", 6, 6, 0);
        // b waits for 8 MINUTES, but is not of the ORDER
        fresh("rr", "0v1>19;0v1>11;0v1>11");
        x.off(0);
        x.minute();
        x.off(1);
        dueOrder("c", 11, 11, 0);
        // one set off ahead of another in the same MINUTE; a corridor lets it by
        fresh("cc", "0v1>99;0v1>11");
        dueOrder("ab", 18, 18, 2, 0);
        // the next sets off only behind the one that waits for its hour
        fresh("c", "9v1>1;0v1>1");
        dueOrder("ab", 10, 10, 10, 0);
        dueOrder("ba", 10, 1, 10, 0);
    }

    private static void best() {
        promise = 22;
        fresh("rr", "0v9>32;0w5>14;2v8<22");
        due("best", x.best(3), 7);
        dueRow(1, 0);
        due("one", x.best(4), 6);
        dueRow(2);
        due("none in 400", x.best(5), -2);
        due("the row stays", x.count(9), 1);
        due("nobody", x.best(0), -1);
        due("none such", x.best(8), -1);
        due("none such", x.best(-1), -1);
        x.off(0);
        due("not outside", x.best(3), -1);
        due("with one in a room", x.best(2), 9);
        // as soon both: the one in which less is waited
        fresh("rr", "0v1>13;0v1>11;50v1>11");
        due("less waited", x.best(7), 52);
        dueRow(1, 0, 2);
        // as soon and as calm: the least row
        fresh("rr", "0v1>11;0v1>11;0v1>11");
        due("alike", x.best(7), 4);
        dueRow(0, 1, 2);
        // behind bc the one in the corridor waits for 1 MINUTE, behind cb it does not; b and c never do
        fresh("rc", "0v1<11;0v1>21;0v1>11");
        x.off(0);
        due("waited by those alone", x.best(6), 5);
        dueRow(1, 2);
    }

    private static void calm() {
        promise = 23;
        fresh("rr", "0v9>32;0w5>14;2v8<22");
        due("calm", x.calm(3), 1);
        dueRow(7, 1, 0);
        due("none", x.calm(5), -2);
        due("nobody", x.calm(0), -1);
        due("none such", x.calm(8), -1);
        x.off(0);
        due("not outside", x.calm(1), -1);
        // a behind b waits for 1 MINUTE, but all are through sooner than with b behind a
        fresh("rr", "0v1>41;0v1>15");
        due("calm", x.calm(3), 0);
        dueRow(10, 0, 1);
        due("best", x.best(3), 7);
        dueRow(1, 0);
        fresh("rr", "0v1>51;0v1>15");
        due("of as calm ones the soonest", x.calm(3), 0);
        dueRow(7, 1, 0);
        fresh("rr", "0v1>11;0v1>11");
        due("alike", x.calm(3), 0);
        dueRow(3, 0, 1);
    }

    private static void many() {
        promise = 24;
        fresh("rr", "0v9>32;0w5>14;2v8<22");
        due("6", x.many(3, 6), 0);
        dueRow(0);
        due("1", x.many(3, 1), 0);
        due("7", x.many(3, 7), 1);
        due("8", x.many(3, 8), 1);
        due("9", x.many(3, 9), 2);
        due("400", x.many(5, 400), 0);
        dueRow(2);
        due("0", x.many(3, 0), -1);
        due("401", x.many(3, 401), -1);
        due("nobody", x.many(0, 4), -1);
        due("none such", x.many(8, 4), -1);
        dueRow(2);
        x.off(0);
        due("not outside", x.many(3, 40), -1);
        fresh("r", "0v1>1;0v1>1;0v1>1;0v1>1;0v1>1;0v1>1");
        due("all", x.many(63, 6), 720);
        due("none", x.many(63, 5), 0);
        dueRow(0);
    }

    private static void gap() {
        promise = 25;
        fresh("rcr", "0v1>324;0v1>195;0v1<231;0v1<222");
        due("gap", x.gap(0, 1), 3);
        dueRow(0);
        due("gap", x.gap(1, 0), 10);
        dueRow(2);
        // from behind: ROOM 2 is the first of the way: 1; ROOM 0 the last: 6 - 4 = 2
        due("gap", x.gap(2, 3), 2);
        dueRow(0);
        // 2; 6 - 4 = 2
        due("gap", x.gap(3, 2), 2);
        dueRow(2);
        due("another way", x.gap(0, 2), -2);
        due("like ones", x.gap(0, 0), -1);
        due("none such", x.gap(0, 4), -1);
        due("none such", x.gap(-1, 0), -1);
        dueRow(2);
        fresh("cc", "0v1>55;0v1>11");
        due("corridors alone", x.gap(0, 1), 0);
        dueRow(-1);
        fresh("cr", "0v1>10;0v1>91;0v1>11");
        due("0 without any", x.gap(0, 1), 0);
        dueRow(-1);
        due("0 with one", x.gap(0, 2), 0);
        dueRow(1);
    }

    private static void smooth() {
        promise = 26;
        fresh("rr", "0v9>32;7w5>14;2v8<22;0v8<11");
        due("smooth", x.smooth(3), 7);
        dueRow(1, 0, 0, 2);
        due("one", x.smooth(4), 4);
        dueRow(2, 0);
        due("two ways", x.smooth(7), -2);
        due("nobody", x.smooth(0), -1);
        due("none such", x.smooth(16), -1);
        due("none such", x.smooth(-1), -1);
        dueRow(2, 0);
        // c ahead of d: gap max(2, 4 - 1) = 3, 3 + 2 = 5; d ahead of c: max(1, 2 - 2) = 1, 1 + 4 = 5: the least row
        due("from behind", x.smooth(12), 5);
        dueRow(2, 3, 0, 3);
        x.off(0);
        due("those inside count as well", x.smooth(3), 7);
        // the first is through last
        fresh("rc", "0v1>19;0v1>11");
        due("corridor behind", x.smooth(3), 10);
        dueRow(0, 1, 0, 1);
    }

    private static void every() {
        promise = 27;
        fresh("rcrr", "0v1>2733;0v1>0900;0v1<1111");
        due("every", x.every(0), 3);
        dueRow(2, 96);
        due("0", x.every(1), 0);
        dueRow(0, -1);
        due("first by numbers", x.every(2), 1);
        dueRow(0, 297);
        due("none such", x.every(3), -1);
        due("none such", x.every(-1), -1);
        dueRow(0, 297);
        fresh("cc", "0v1>99");
        due("no room at all", x.every(0), 0);
        dueRow(-1, -1);
        fresh("rr", "0v1>95");
        dueRule("s*9", 0);
        due("30 at most", x.every(0), 30);
        dueRow(0, 9);
    }

    private static void least() {
        promise = 28;
        fresh("rcr", "9v1>192;0v1<253;0v1>442");
        due("one", x.least(1), 12);
        dueRow(-1, 1);
        due("two", x.least(6), 10);
        dueRow(-1, 6);
        due("all", x.least(7), 12);
        dueRow(-1, 1);
        due("nobody", x.least(0), 0);
        dueRow(0, 0);
        due("none such", x.least(8), -1);
        due("none such", x.least(-1), -1);
        dueRow(0, 0);
        x.leave(0, 2);
        x.leave(1, 2);
        due("rooms", x.least(7), 10);
        dueRow(-1, 4);
        x.leave(2, 2);
        due("rooms", x.least(7), 7);
        dueRow(0, 0);
        due("the first of two", x.least(3), 5);
        dueRow(2, 2);
    }

    private static void late() {
        promise = 29;
        fresh("rr", "0v1>12;0v1>11;0v1<11");
        due("outside", x.late(0, 1), -1);
        x.off(0);
        x.minute();
        x.off(1);
        due("late", x.late(0, 3), 3);
        dueRow(3, 6);
        // the second waits one MINUTE anyway
        due("late", x.late(1, 1), 0);
        dueRow(0, 0);
        due("late", x.late(1, 3), 2);
        dueRow(2, 2);
        due("0", x.late(1, 0), -1);
        due("31", x.late(1, 31), -1);
        due("none such", x.late(3, 1), -1);
        due("none such", x.late(-1, 1), -1);
        due("it is outside", x.late(2, 1), -1);
        dueRow(2, 2);
        due("nothing changes", group(0, 5), 2);
        fresh("rr", "0v1>11;0v1<11");
        x.off(0);
        x.off(1);
        due("stuck", x.late(0, 1), -2);
        // they can go by each other in the corridor alone: a has to be in ROOM 1 by the time b would be
        fresh("rrcr", "0v1>1111;0v1<1111");
        x.off(0);
        x.off(1);
        due("in time", x.late(0, 1), 1);
        dueRow(3, 2);
        due("stuck then", x.late(0, 2), -2);
        due("30", x.late(0, 30), -2);
        fresh("rrcr", "0v1>3111;0v1<1111");
        x.off(0);
        x.off(1);
        due("stuck as it is, not then", x.late(1, 5), -2);
        // b goes first through the room, till it is so late that a does
        fresh("crc", "0v1>511;0v1<133");
        x.off(0);
        x.off(1);
        due("both are later", x.late(1, 1), 1);
        dueRow(3, 2);
        due("one is later, one sooner", x.late(1, 3), 2);
        dueRow(2, 3);
        due("30", x.late(1, 30), 29);
        dueRow(2, 30);
        // a is ahead as it is; then b, and the long STAYS of both are side by side
        fresh("crr", "0v1>141;0v1>114");
        x.off(0);
        x.off(1);
        due("the last one is sooner", x.late(0, 1), -3);
        dueRow(1, 1);
    }

    private static void slack() {
        promise = 30;
        fresh("rr", "0v1>12;0v1>11;0v1<11");
        due("outside", x.slack(0), -1);
        x.off(0);
        due("nobody else", x.slack(0), 30);
        x.minute();
        x.off(1);
        due("the one behind is later at once", x.slack(0), 0);
        due("nobody behind it", x.slack(1), 30);
        due("outside", x.slack(2), -1);
        due("none such", x.slack(3), -1);
        due("none such", x.slack(-1), -1);
        fresh("rr", "0v1>14;0v1>91");
        x.off(0);
        x.minute();
        x.off(1);
        due("till the one behind it has gone through its own", x.slack(0), 5);
        fresh("rr", "0v1>51;0v1>14");
        x.off(1);
        x.minute();
        x.off(0);
        due("one", x.slack(1), 1);
        fresh("rrcr", "0v1>1111;0v1<1111");
        x.off(0);
        x.off(1);
        due("the other one later, or never", x.slack(0), 0);
        fresh("crc", "0v1>511;0v1<133");
        x.off(0);
        x.off(1);
        due("the greatest, though lesser ones are none such", x.slack(1), 30);
        fresh("rr", "0v1>11;0v1<11");
        x.off(0);
        x.off(1);
        due("stuck", x.slack(0), -2);
    }

    private static void dies() {
        promise = 31;
        fresh("rcr", "0v1>393;0v1>090");
        due("dies", x.dies(0, 4, 5), 4);
        dueRow(1);
        due("dies", x.dies(0, 5, 5), 2);
        dueRow(1);
        due("none", x.dies(0, 8, 5), 0);
        dueRow(0);
        due("for ever", x.dies(0, 3, 7), 20);
        dueRow(7);
        due("n less than every()", x.dies(0, 2, 5), -2);
        due("0", x.dies(0, 0, 5), -1);
        due("61", x.dies(0, 61, 5), -1);
        due("0", x.dies(0, 5, 0), -1);
        due("61", x.dies(0, 5, 61), -1);
        due("none such", x.dies(2, 5, 5), -1);
        due("none such", x.dies(-1, 5, 5), -1);
        dueRow(7);
        due("1", x.dies(0, 4, 1), 0);
        due("20 at most", x.dies(1, 1, 60), 20);
        dueRow(40);
        due("60", x.dies(1, 60, 60), 0);
        fresh("c", "0v1>9");
        due("no room at all", x.dies(0, 1, 3), 2);
        dueRow(1);
    }

    private static void loss() {
        promise = 32;
        fresh("rcr", "0v9>321;5v7>135;0w7>135;0v7<135;0v31>321;0v32>321");
        due("loss", x.loss(0, 1), 2 * 7 + 9 + 4 * 9);
        due("loss", x.loss(1, 0), 2 * 7 + 9 + 4 * 9);
        due("tongues", x.loss(0, 2), -2);
        due("ways", x.loss(0, 3), -2);
        due("40 are fine", x.loss(0, 4), 0);
        due("41 are not", x.loss(0, 5), -2);
        due("like ones", x.loss(0, 0), -1);
        due("none such", x.loss(0, 6), -1);
        due("none such", x.loss(-1, 0), -1);
        x.leave(0, 7);
        due("left out", x.loss(0, 1), 9 * 9);
    }

    private static void pairs() {
        promise = 33;
        x = new NoTwoInOneRoom();
        due("nobody", x.pairs(), 0);
        dueRow(0);
        fresh("r", "0v1>1;0v1>3;0v1>4;0v1>7");
        // 01 23: 2 + 3; 02 13: 3 + 4; 03 12: 6 + 1
        due("pairs", x.pairs(), 2);
        dueRow(5, 1, 0, 3, 2);
        fresh("r", "0v1>1;0v1>1;0v1>1");
        // 12 is the least row, for -1 is less
        due("of as good ones the least row", x.pairs(), 1);
        dueRow(0, -1, 2, 1);
        fresh("r", "0v1>9;0v40>9;0v1>1;0w1>9;0w1>1");
        due("more pairs ahead of less loss", x.pairs(), 2);
        dueRow(16, 2, -1, 0, 4, 3);
    }

    private static void brief() {
        promise = 34;
        fresh("rr", "0v9>32;0w5>14;2v8<22");
        due("brief", x.brief(3), 5);
        dueRow(0, 1);
        due("head on", x.brief(5), 7);
        dueRow(0, 0);
        due("questions change nothing", x.stay(0, 1), 2);
        due("nobody", x.brief(0), -1);
        due("none such", x.brief(8), -1);
        dueRow(0, 0);
        fresh("r", "5v9>0;0v9>0");
        due("none is better", x.brief(1), 6);
        dueRow(-1, -1);
        fresh("r", "5v9>0;0v9>0");
        due("none is better", x.brief(1), 6);
        text("rrr");
        x.palace();
        text("0v1>111;0v1<111");
        x.groups();
        due("they meet, whatever is left out", x.brief(3), -2);
        dueRow(-1, -1);
        // another GROUP, that is in a ROOM now
        fresh("rr", "0v1>19;0v1>11");
        x.off(0);
        due("not outside", x.brief(3), -1);
        due("best", x.best(2), 11);
        due("the other one is brief", x.brief(2), 3);
        dueRow(0, 1);
        // a STAY already begun is not shorter
        fresh("rr", "0v1>91;0v1>11");
        x.off(0);
        due("best", x.best(2), 11);
        due("brief", x.brief(2), 10);
        dueRow(1, 1);
    }

    private static void heard() {
        promise = 35;
        fresh("rr", "0v9>32");
        due("heard", x.heard(0, 1, 0), 1);
        due("nobody", x.heard(1, 300, -1), 2);
        due("heard", x.heard(1, 1, 4), 3);
        due("no such room", x.heard(2, 1, 0), -1);
        due("no such room", x.heard(-1, 1, 0), -1);
        due("0", x.heard(0, 0, 0), -1);
        due("301", x.heard(0, 301, 0), -1);
        due("5", x.heard(0, 1, 5), -1);
        due("-2", x.heard(0, 1, -2), -1);
        for (int k = 4; k <= 12; k++) due("heard", x.heard(0, 1, 0), k);
        due("12", x.heard(0, 1, 0), -1);
        due("heard", x.count(7), 12);
    }

    private static void forget() {
        promise = 36;
        fresh("rr", "0v9>32");
        due("nothing", x.forget(), 0);
        x.heard(0, 1, 0);
        x.heard(0, 1, 0);
        due("two", x.forget(), 2);
        due("none is left", x.count(7), 0);
        due("nothing", x.forget(), 0);
    }

    private static void fits() {
        promise = 37;
        fresh("rr", "0v9>32;0w5>14;2v8<22");
        due("nothing was heard", x.fits(3), 2);
        dueRow(0, 1);
        due("stuck ones fit too", x.fits(5), 2);
        x.heard(1, 2, 1);
        due("one", x.fits(3), 1);
        dueRow(1, 0);
        x.heard(0, 1, -1);
        due("one", x.fits(3), 1);
        x.heard(0, 4, 1);
        due("none", x.fits(3), 0);
        dueRow();
        due("nobody", x.fits(0), -1);
        due("none such", x.fits(8), -1);
        x.forget();
        x.heard(1, 300, -1);
        due("behind the end of the day nobody is there", x.fits(3), 2);
        x.heard(1, 299, 0);
        due("nor anybody", x.fits(3), 0);
        x.forget();
        // one that is in a ROOM already is heard as well, behind the end of the day too
        fresh("rc", "0v9>19;0w5<12");
        x.off(0);
        x.heard(1, 9, 0);
        due("the other one", x.fits(2), 1);
        x.heard(1, 10, 0);
        due("it is through by then", x.fits(2), 0);
        due("not outside", x.fits(1), -1);
        // the MINUTE is told from when it is asked for
        x.forget();
        x.heard(1, 5, 0);
        due("from now", x.fits(2), 1);
        x.minutes(7);
        due("from then", x.fits(2), 0);
    }

    private static void began() {
        promise = 38;
        fresh("rr", "0v1>11;0w1>11;0x1>11");
        due("all", x.began(7), 7);
        dueRow(7);
        x.heard(0, 1, -1);
        due("a room that is free behind the first minute", x.began(7), 7);
        x.heard(1, 2, 1);
        due("b is second", x.began(7), 5);
        dueRow(5);
        x.heard(1, 1, 0);
        due("a is first", x.began(7), 1);
        dueRow(4);
        x.heard(1, 1, 1);
        due("none", x.began(7), 0);
        dueRow(0);
        due("nobody", x.began(0), -1);
        due("none such", x.began(8), -1);
        x.off(0);
        due("not outside", x.began(7), -1);
        dueRow(0);
    }

    private static void season() {
        promise = 39;
        fresh("rr", "0v9>32;0w5>14;2v8<22");
        // seed 0: R = 12345, 12345 / 65536 = 0: a, then b: 9
        due("one day", x.season(3, 0, 1), 1);
        dueRow(9, 9, 0);
        // by hand: R = 12345, -740551042, 2090651035... : the draws of two are (R >>> 16) % 2 of each odd one
        int r = 0;
        int ba = 0;
        int first = -1;
        for (int day = 0; day < 20; day++) {
            r = r * 1103515245 + 12345;
            if ((r >>> 16) % 2 == 1) {
                ba++;
                if (first < 0) first = day;
            }
            r = r * 1103515245 + 12345;
        }
        due("the draws are of both kinds", ba > 0 && ba < 20, true);
        due("20 days", x.season(3, 0, 20), 20);
        dueRow(7, 9, first);
        due("none is through", x.season(5, 1, 20), 0);
        dueRow(-1, -1, -1);
        due("0", x.season(3, 1, 0), -1);
        due("21", x.season(3, 1, 21), -1);
        due("nobody", x.season(0, 1, 1), -1);
        due("none such", x.season(8, 1, 1), -1);
        x.off(0);
        due("not outside", x.season(3, 1, 1), -1);
        dueRow(-1, -1, -1);
    }

    private static void keep() {
        promise = 40;
        fresh("rr", "0v9>32");
        due("0", x.keep(0), true);
        due("1", x.keep(1), true);
        due("2", x.keep(2), false);
        due("-1", x.keep(-1), false);
        x.off(0);
        x.keep(1);
        x.again(0);
        due("outside", group(0, 4), -1);
        x.again(1);
        due("inside", group(0, 4), 0);
    }

    private static void again() {
        promise = 41;
        fresh("rr", "0v9>32;0v9>11");
        due("nothing kept", x.again(0), false);
        x.off(0);
        x.minutes(3);
        x.off(1);
        x.minutes(2);
        x.keep(0);
        int now = x.count(2);
        int waited = x.count(6);
        due("another", x.again(1), false);
        due("another", x.again(2), false);
        due("another", x.again(-1), false);
        due("none is forgotten", x.count(8), 4);
        x.stand(9);
        x.minutes(90);
        x.leave(0, 1);
        due("again", x.again(0), true);
        due("now", x.count(2), now);
        due("waited", x.count(6), waited);
        due("where", group(1, 4), 1);
        due("not through", group(1, 7), -1);
        due("through", group(0, 7), 4);
        due("left out stays", group(0, 8), 1);
        due("the rooms are free or not as then", x.off(0), -2);
        due("again and again", x.again(0), true);
        dueGroups("", 0);
        due("no groups came", x.again(0), true);
        dueGroups("0v1>11", 1);
        due("groups came", x.again(0), false);
        x.keep(0);
        due("kept anew", x.again(0), true);
        duePalace("rr", 2);
        due("the palace is anew", x.again(0), false);
        fresh("rr", "0v1>99;0v1>11");
        x.off(0);
        x.minutes(9);
        x.off(1);
        x.minutes(3);
        x.keep(0);
        x.keep(1);
        duePalace("rr", 2);
        dueGroups("0v1>99;0v1>11", 2);
        due("as many groups, but none of those", x.again(0), false);
        due("as many groups, but none of those", x.again(1), false);
        due("waited", group(1, 6), 0);
        due("left", group(0, 5), 0);
        due("through", group(0, 7), -1);
        due("all rooms are free", x.off(1), 1);
    }

    private static void count() {
        promise = 42;
        fresh("rcr", "0v9>111;0v9>111;0v9<111");
        x.off(0);
        x.minutes(3);
        x.off(1);
        x.heard(0, 1, 0);
        x.sign(0);
        int[] want = {3, 3, 3, 4, 2, 1, 0, 1, 3, 2, 4};
        for (int what = 0; what <= 10; what++) due("count " + what, x.count(what), want[what]);
        due("11", x.count(11), -1);
        due("-1", x.count(-1), -1);
        fresh("rr", "0v9>19;0v9>11");
        x.off(0);
        x.minute();
        x.off(1);
        x.minutes(5);
        due("waited", x.count(6), 5);
        x.minutes(90);
        due("all are through", x.count(5), 3);
        due("waited by those that are through as well", x.count(6), 8);
    }

    private static void row() {
        promise = 43;
        fresh("rr", "0v9>32;0w5>14");
        due("none", row(0), THROWS);
        x.calm(3);
        due("0", row(0), 7);
        due("2", row(2), 0);
        due("3", row(3), THROWS);
        due("-1", row(-1), THROWS);
        x.minute();
        dueRow(0, 0);
        due("2", row(2), THROWS);
        due("a call that tells none leaves it", x.off(0), 1);
        dueRow(0, 0);
        due("nor does one that is refused", x.minutes(91), -1);
        dueRow(0, 0);
    }

    /** Nothing but what the document names is ever thrown, and what it refuses changes nothing. */
    private static void wildArguments() {
        promise = 0;
        int[] wild = {Integer.MIN_VALUE, Integer.MIN_VALUE + 1, -400, -2, -1, 0, 1, 5, 6, 31, 32, 33, 63, 64, 400, 1 << 30, Integer.MAX_VALUE};
        for (int kind = 0; kind < 3; kind++) {
            for (int a : wild) {
                if (kind == 0) x = new NoTwoInOneRoom();
                if (kind == 1) fresh("r", "");
                if (kind == 2) fresh("rcrrcr", "0v9>111111;0v9>222222;0v9<333333;0w9>111111;0w9<111111;9x9>123456");
                try {
                    wildOne(a);
                    for (int b : wild) wildTwo(a, b);
                } catch (RuntimeException e) {
                    wrong++;
                    System.out.println("wild " + a + " threw " + e);
                }
            }
        }
    }

    private static void wildOne(int a) {
        x.end(a);
        x.best(a);
        x.calm(a);
        x.smooth(a);
        x.every(a);
        x.least(a);
        x.slack(a);
        x.brief(a);
        x.fits(a);
        x.began(a);
        x.off(a);
        x.stand(a);
        x.minutes(a);
        x.keep(a);
        x.again(a);
        x.count(a);
        row(a);
    }

    private static void wildTwo(int a, int b) {
        group(a, b);
        room(a, b);
        x.stay(a, b);
        x.leave(a, b);
        x.sheet(a, b, a, b, a);
        x.sheet(0, 2, b, a, a);
        x.over(a, b);
        x.where(a, b);
        x.many(a, b);
        x.gap(a, b);
        x.late(a, b);
        x.dies(a, b, b);
        x.dies(0, a, b);
        x.loss(a, b);
        x.heard(a, b, a);
        x.season(a, b, b);
        x.season(1, a, b);
    }
}
