/** Boundary cases of the palace's numbers, of MINUTES, ACTS and undoing, of MINUTES to come: promises 7 to 21. */
public final class EdgesOfMinutesTest extends Asking {
    private static final int LOW = Integer.MIN_VALUE;
    private static final int HIGH = Integer.MAX_VALUE;
    private static final String SIX = "0v1>111111;0v1>111111;0v1>111111;0v1>111111;0v1>111111;0v1>111111";

    public static void main(String[] args) {
        groupNumbers();
        groupBefore();
        roomNumbers();
        stay();
        leave();
        sheetEntries();
        sheetNumbers();
        sheetMissing();
        offComes();
        offRoomFree();
        offInOrder();
        overBy();
        overWaiting();
        stand();
        leftAtLeast0();
        stepsOfOneMinute();
        firstByNumbers();
        waited();
        minutes();
        dayNumbers();
        dayTillOneCant();
        undoTwelve();
        undoWhatWasDone();
        undoForgotten();
        undoBringsBack();
        sixthGroup();
        where();
        stuck();
        stuckNearly400();
        orderOf400();
        orderSetsOff();
        finish("the edges of minutes hold");
    }

    // ---- 7 to 10

    private static void groupNumbers() {
        promise = 7;
        fresh("rrrrrr", SIX);
        for (int what = 0; what <= 8; what++) {
            due("group 0", group(0, what) != THROWS, true);
            due("group 5", group(5, what) != THROWS, true);
            due("group 6", group(6, what), THROWS);
            due("group -1", group(-1, what), THROWS);
            due("group " + LOW, group(LOW, what), THROWS);
            due("group " + HIGH, group(HIGH, what), THROWS);
        }
        for (int what : new int[] {LOW, -1, 9, 10, HIGH}) {
            due("what " + what, group(0, what), THROWS);
            due("what " + what, group(6, what), THROWS);
        }
        fresh("r", "0v1>1");
        due("the only one", group(0, 2), 1);
        due("the second", group(1, 2), THROWS);
        dueGroups("0v9>1", 1);
        due("it is there then", group(1, 2), 9);
    }

    private static void groupBefore() {
        fresh("rr", "0v1>20");
        due("outside", group(0, 4), -1);
        due("left", group(0, 5), 0);
        due("not through", group(0, 7), -1);
        x.off(0);
        due("in ROOM 0", group(0, 4), 0);
        due("left", group(0, 5), 2);
        x.minute();
        due("left", group(0, 5), 1);
        due("not through", group(0, 7), -1);
        x.minute();
        due("through", group(0, 4), 9);
        due("left", group(0, 5), 0);
        due("in the MINUTE that was NOW ahead of it", group(0, 7), 1);
        due("now", x.count(2), 2);
        x.stand(60);
        x.minutes(9);
        due("it stays so", group(0, 7), 1);
        due("it stays so", group(0, 4), 9);
        fresh("r", "0v1>0");
        x.off(0);
        x.minute();
        due("through in MINUTE 0", group(0, 7), 0);
    }

    private static void roomNumbers() {
        promise = 8;
        for (int n = 1; n <= 6; n++) {
            fresh(times("r", n), "0v1>" + times("9", n));
            due("last", room(n - 1, 2), 9);
            due("behind the last", room(n, 2), THROWS);
            due("ahead of the first", room(-1, 2), THROWS);
            for (int r : new int[] {LOW, HIGH}) due("room " + r, room(r, 0), THROWS);
            for (int what : new int[] {LOW, -1, 3, HIGH}) due("what " + what, room(0, what), THROWS);
        }
        fresh("cr", "");
        due("nobody", room(0, 1), 0);
        due("nobody", room(0, 2), 0);
        fresh("c", "0v1>1;0v1>2;0v1>3;0v1>4;0v1>5;0v1>6");
        for (int g = 0; g < 6; g++) x.off(g);
        due("all six", room(0, 1), 63);
        due("all six", room(0, 2), 21);
        dueRule("99", 0);
        due("30 at most each", room(0, 2), 180);
    }

    private static void stay() {
        promise = 9;
        fresh("rrrrrr", SIX);
        due("last in last", x.stay(5, 5), 1);
        due("none such", x.stay(6, 5), -1);
        due("none such", x.stay(5, 6), -1);
        due("none such", x.stay(-1, 5), -1);
        due("none such", x.stay(5, -1), -1);
        for (int n : new int[] {LOW, HIGH}) {
            due("none such", x.stay(n, 0), -1);
            due("none such", x.stay(0, n), -1);
        }
    }

    private static void leave() {
        promise = 10;
        for (int n = 1; n <= 6; n++) {
            fresh(times("r", n), "0v1>" + times("9", n));
            int all = (1 << n) - 1;
            due("all", x.leave(0, all), 0);
            for (int r = 0; r < n; r++) due("left out", x.stay(0, r), 0);
            due("one too many", x.leave(0, 1 << n), -1);
            due("one too many among others", x.leave(0, 1 << n | 1), -1);
            due("below 0", x.leave(0, -1), -1);
            due("the least int", x.leave(0, LOW), -1);
            due("still all", group(0, 8), all);
            due("none", x.leave(0, 0), all);
            for (int r = 0; r < n; r++) due("not left out", x.stay(0, r), 9);
            due("none was", x.leave(0, 1 << n - 1), 0);
            due("the last", x.stay(0, n - 1), 0);
            due("none such", x.leave(1, 0), -1);
            due("none such", x.leave(-1, 0), -1);
        }
        // LEFT of one that is in the ROOM is as it was, also when it gets 0
        fresh("rr", "0v1>55");
        x.off(0);
        x.leave(0, 3);
        due("left", group(0, 5), 5);
        x.minutes(5);
        due("the next ROOM takes it no time", group(0, 7), 4);
    }

    // ---- 11

    private static void dueEntry(int kind, int f, int want) {
        due("sheet " + kind + " of " + f, x.sheet(0, kind, 1, f, 0), want);
        due("told", x.stay(0, 0), want);
    }

    private static void sheetEntries() {
        promise = 11;
        fresh("r", "0v1>5");
        int[][] ints = {{-1, 0}, {0, 0}, {1, 1}, {8, 8}, {9, 9}, {10, 9}, {HIGH, 9}, {LOW, 0}, {256, 9}, {65536, 9}};
        for (int[] e : ints) dueEntry(2, e[0], e[1]);
        int[][] bytes = {{-1, 0}, {0, 0}, {9, 9}, {10, 9}, {127, 9}, {128, 0}, {255, 0}, {256, 0}, {257, 1}, {265, 9}, {266, 9},
            {383, 9}, {384, 0}, {-128, 0}, {-129, 9}, {-247, 9}, {-248, 8}, {HIGH, 0}, {LOW, 0}, {LOW + 3, 3}};
        for (int[] e : bytes) dueEntry(0, e[0], e[1]);
        int[][] shorts = {{-1, 0}, {0, 0}, {9, 9}, {10, 9}, {255, 9}, {32767, 9}, {32768, 0}, {65535, 0}, {65536, 0}, {65537, 1},
            {65545, 9}, {-32768, 0}, {-32769, 9}, {-65528, 8}, {HIGH, 0}, {LOW, 0}, {LOW + 4, 4}};
        for (int[] e : shorts) dueEntry(1, e[0], e[1]);
    }

    private static void sheetNumbers() {
        fresh("rr", "0v1>11;0v1>11;0v1>11;0v1>11;0v1>11;0v1>11");
        for (int kind = 0; kind < 3; kind++) {
            for (int n = 0; n <= 6; n++) {
                due("sum of " + n, x.sheet(1, kind, n, 2, 1), n == 6 ? 27 : n * (n + 3) / 2);
                for (int g = 0; g < 6; g++) {
                    due("told", x.stay(g, 1), g < n ? g + 2 : 0);
                    due("in the other ROOM", x.stay(g, 0), 1);
                }
            }
            due("7", x.sheet(1, kind, 7, 2, 1), -1);
            due("-1", x.sheet(1, kind, -1, 2, 1), -2);
            due("as of 6", room(1, 2), 27);
        }
        // they wrap around as ints do
        due("wrapping", x.sheet(0, 2, 3, HIGH, 1), 9);
        due("greatest", x.stay(0, 0), 9);
        due("least", x.stay(1, 0), 0);
        due("wrapping", x.sheet(0, 2, 4, 3, LOW), 6);
        int[] by = {3, 0, 3, 0, 0, 0};
        for (int g = 0; g < 6; g++) due("told", x.stay(g, 0), by[g]);
        due("wrapping", x.sheet(0, 2, 6, 5, -HIGH), 5 + 0 + 7 + 0 + 9 + 0);
        // of fewer GROUPS than entries: those that are there
        fresh("rr", "0v1>11;0v1>11");
        due("two of six", x.sheet(0, 2, 6, 3, 1), 7);
        due("two of two", x.sheet(0, 2, 2, 3, 1), 7);
        due("one of two", x.sheet(0, 2, 1, 3, 1), 3);
        dueGroups("0v1>66", 1);
        due("one that comes is as its LINE tells", x.stay(2, 0), 6);
        fresh("r", "");
        due("nobody", x.sheet(0, 2, 6, 3, 1), 0);
    }

    private static void sheetMissing() {
        for (int n : new int[] {LOW, -1, 0, 1, 6}) {
            fresh("rr", "0v1>12;0v1>34");
            due("missing", x.sheet(1, 3, n, 5, 5), -3);
            due("all 0", room(1, 2), 0);
            due("the other ROOM", room(0, 2), 4);
        }
        due("these first: 7", x.sheet(0, 3, 7, 5, 5), -1);
        due("these first: no such ROOM", x.sheet(2, 3, 0, 5, 5), -1);
        due("these first: no such ROOM", x.sheet(-1, 3, 0, 5, 5), -1);
        due("kind 4", x.sheet(0, 4, 0, 5, 5), -1);
        due("kind -1", x.sheet(0, -1, 0, 5, 5), -1);
        due("nothing changed", room(0, 2), 4);
    }

    // ---- 12

    private static void offComes() {
        promise = 12;
        fresh("c", "0v1>9;1v1>9;99v1>9");
        due("comes in 0", x.off(0), 1);
        due("a MINUTE too early", x.off(1), -3);
        x.minute();
        due("in its MINUTE", x.off(1), 2);
        x.minutes(90);
        x.minutes(7);
        due("98", x.count(2), 98);
        due("a MINUTE too early", x.off(2), -3);
        x.stand(1);
        due("in its MINUTE", x.off(2), 1);
        fresh("c", "99v1>9");
        x.minutes(90);
        x.minutes(10);
        due("a MINUTE later", x.off(0), 1);
    }

    private static void offRoomFree() {
        fresh("rr", "0v1>12;0v1>11;0v1<12");
        due("first", x.off(0), 1);
        due("not free", x.off(1), -4);
        due("from behind it is", x.off(2), 2);
        x.undo();
        x.minute();
        due("free again", x.off(1), 2);
        due("not free from behind", x.off(2), -4);
        fresh("c", "0v1>1;0v1>1;0v1>1;0v1>1;0v1>1;0v1>1");
        for (int g = 5; g >= 0; g--) due("any many", x.off(g), 6 - g);
        due("none such", x.off(6), -1);
        due("none such", x.off(-1), -1);
        due("none such", x.off(LOW), -1);
        due("none such", x.off(HIGH), -1);
        // who stands in the last ROOM of the other's way
        fresh("rcr", "0v1>111;0v1<111");
        x.off(0);
        x.off(1);
        due("both", x.count(4), 3);
    }

    private static void offInOrder() {
        fresh("r", "0v1>5;3v1>5");
        x.off(0);
        due("not OUTSIDE ahead of not free", x.off(0), -2);
        due("not come ahead of not free", x.off(1), -3);
        x.stand(3);
        due("come, not free", x.off(1), -4);
        due("refused ones are none to undo", x.count(8), 2);
        x.minutes(5);
        due("THROUGH is not OUTSIDE", x.off(0), -2);
        due("the other", x.off(1), 1);
    }

    // ---- 13, 14

    private static void overBy() {
        promise = 13;
        fresh("rr", "0v1>90;0v1>11");
        due("outside", x.over(0, 1), -1);
        x.off(0);
        due("0", x.over(0, 0), -1);
        due("-1", x.over(0, -1), -1);
        due("31", x.over(0, 31), -1);
        due("least", x.over(0, LOW), -1);
        due("greatest", x.over(0, HIGH), -1);
        due("1", x.over(0, 1), 10);
        due("30", x.over(0, 30), 40);
        due("29", x.over(0, 29), 69);
        due("99 just so", x.over(0, 30), 99);
        x.undo();
        due("98", x.over(0, 29), 98);
        due("99 just so", x.over(0, 1), 99);
        x.undo();
        due("100 are 99", x.over(0, 2), 99);
        due("99 stay 99", x.over(0, 1), 99);
        due("99 stay 99", x.over(0, 30), 99);
        due("left", group(0, 5), 99);
        for (int g : new int[] {LOW, -1, 1, 2, HIGH}) due("none such, or outside", x.over(g, 1), -1);
        x.minutes(90);
        due("still there", x.minutes(8), 0);
        due("through", x.minutes(1), 1);
        due("through", x.over(0, 1), -1);
    }

    private static void overWaiting() {
        fresh("rr", "0v1>13;0v1>11");
        x.off(0);
        x.minute();
        x.off(1);
        x.minute();
        due("it waits", group(1, 6), 1);
        due("left", group(1, 5), 0);
        due("it runs over", x.over(1, 2), 2);
        x.minute();
        due("it does not wait then", group(1, 6), 1);
        x.minute();
        due("it steps on", group(1, 4), 1);
    }

    private static void stand() {
        promise = 14;
        fresh("rr", "0v1>13;0v1>11");
        x.off(0);
        x.minute();
        x.off(1);
        x.minute();
        for (int n : new int[] {LOW, -1, 0, 61, HIGH}) due("stand " + n, x.stand(n), -1);
        due("now", x.count(2), 2);
        due("1", x.stand(1), 3);
        due("60", x.stand(60), 63);
        due("59", x.stand(59), 122);
        due("left", group(0, 5), 2);
        due("where", group(0, 4), 1);
        due("nobody waited", x.count(6), 1);
        due("all are where they were", x.count(4), 3);
        x.minutes(2);
        due("through in the MINUTE by the clock", group(0, 7), 123);
    }

    // ---- 15

    private static void leftAtLeast0() {
        promise = 15;
        fresh("rr", "0v1>19;0v1>11");
        x.off(0);
        x.minute();
        x.off(1);
        for (int k = 1; k <= 8; k++) {
            due("minute", x.minute(), 0);
            dueRow(0, 2);
            due("left", group(1, 5), 0);
            due("waited", group(1, 6), k);
        }
        due("the first is through", x.minute(), 1);
        dueRow(3, 0);
        due("waited no more", group(1, 6), 8);
        due("left anew", group(1, 5), 1);
        due("the second", x.minute(), 1);
        dueRow(2, 0);
        due("nobody is left", x.minute(), 0);
        dueRow(0, 0);
    }

    private static void stepsOfOneMinute() {
        // STAYS of 0 are gone through at once, up to one that is not 0
        fresh("rrrrrr", "0v1>100100");
        x.off(0);
        due("minute", x.minute(), 0);
        due("where", group(0, 4), 3);
        due("left", group(0, 5), 1);
        due("minute", x.minute(), 1);
        fresh("rrrrrr", "0v1<000000");
        x.off(0);
        due("where", group(0, 4), 5);
        due("all at once", x.minute(), 1);
        due("through", group(0, 7), 0);
        // a whole row moves on in one MINUTE, as far as it can
        fresh("rrr", "0v1>119;0v1>119;0v1>119");
        x.off(0);
        x.minute();
        x.off(1);
        x.minute();
        x.off(2);
        x.minutes(8);
        due("the last room", group(0, 4), 2);
        due("minute", x.minute(), 1);
        dueRow(7, 0);
        due("the second is where the first was", group(1, 4), 2);
        due("the third is where the second was", group(2, 4), 1);
        // six of STAY 0 behind one another in one MINUTE
        fresh("crrrrr", "0v1>100000;0v1>100000;0v1>100000;0v1>100000;0v1>100000;0v1>100000");
        for (int g = 0; g < 6; g++) x.off(g);
        due("all six", x.minute(), 6);
        dueRow(63, 0);
        // STAY 0 ahead of a ROOM that is taken: it waits in the same MINUTE
        fresh("rrr", "0v1>119;0v1>100");
        x.off(0);
        x.minutes(2);
        x.off(1);
        due("minute", x.minute(), 0);
        dueRow(2, 2);
        due("it is before the taken one", group(1, 4), 1);
    }

    private static void firstByNumbers() {
        // both could be in ROOM 1: the lesser number is
        fresh("crc", "0v1>111;0v1<111");
        x.off(1);
        x.off(0);
        x.minute();
        dueRow(1, 2);
        due("the first", group(0, 4), 1);
        fresh("crc", "0v1<111;0v1>111");
        x.off(1);
        x.off(0);
        x.minute();
        dueRow(1, 2);
        due("the first, from behind", group(0, 4), 1);
        // behind each step it is asked from the least number again
        fresh("crr", "0v1>111;0v1>911;0v1>110");
        x.off(2);
        x.minute();
        x.off(1);
        x.over(2, 8);
        x.off(0);
        x.minutes(8);
        due("it waits", group(0, 4), 0);
        x.minute();
        due("the lesser of the two that wait has the room", group(0, 4), 1);
        due("the other waits", group(1, 4), 0);
        due("the third is through", group(2, 4), 9);
    }

    private static void waited() {
        // in the last ROOM nobody waits; OUTSIDE and THROUGH nobody waits
        fresh("rr", "0v1>11;0v1>11;9v1>11");
        x.off(0);
        x.minutes(90);
        due("waited", x.count(6), 0);
        // a corridor is never full
        fresh("crc", "0v1>191;0v1>111;0v1>111");
        for (int g = 0; g < 3; g++) x.off(g);
        x.minutes(5);
        dueRow(0, 10);
        due("in the corridor", room(0, 1), 6);
        due("waited", group(1, 6), 5);
        due("waited", group(2, 6), 5);
        // head on: for ever
        fresh("rr", "0v1>11;0v1<11");
        x.off(0);
        x.off(1);
        x.minutes(90);
        due("both", x.count(6), 180);
        dueRow(0, 180);
        due("minute", x.minute(), 0);
        dueRow(0, 3);
    }

    // ---- 16

    private static void minutes() {
        promise = 16;
        fresh("rr", "0v1>15;0v1>11;0v1>11");
        x.off(0);
        x.minute();
        x.off(1);
        for (int n : new int[] {LOW, -1, 91, HIGH}) due("minutes " + n, x.minutes(n), -1);
        due("now", x.count(2), 1);
        due("undo", x.count(8), 3);
        due("0", x.minutes(0), 0);
        dueRow(0, 0);
        due("0 is none to undo", x.count(8), 3);
        due("now", x.count(2), 1);
        due("1", x.minutes(1), 0);
        dueRow(0, 1);
        due("1 is one to undo", x.count(8), 4);
        due("now", x.count(2), 2);
        due("4", x.minutes(4), 1);
        dueRow(1, 3);
        due("90", x.minutes(90), 1);
        dueRow(2, 0);
        due("now", x.count(2), 96);
        due("89", x.minutes(89), 0);
        dueRow(0, 0);
        due("now", x.count(2), 185);
        due("as one each", x.count(8), 7);
    }

    // ---- 17

    private static void dayNumbers() {
        promise = 17;
        fresh("rr", "0v1>99;0v1>11");
        dueDay("", 0, 0, 0);
        due("nothing is to undo", x.count(8), 0);
        String[] good = {"m0", "m00", "m1", "m01", "m9", "m89", "m90", "p1", "p9"};
        int[] now = {0, 0, 1, 2, 11, 100, 190, 191, 200};
        for (int k = 0; k < good.length; k++) {
            dueDay(good[k], 1, 0, 0);
            due("now", x.count(2), now[k]);
            due("undo", x.count(8), k + 1);
        }
        for (int n = 91; n <= 99; n++) dueDay("m" + n, 0, 1, 0);
        due("now", x.count(2), 200);
        dueDay("oa;va1;va9", 3, 0, 0);
        due("left", group(0, 5), 19);
        // letters of GROUPS that are not there can stand, but can't be done
        for (char c = 'c'; c <= 'f'; c++) {
            dueDay("o" + c, 0, 1, 0);
            dueDay("v" + c + "1", 0, 1, 0);
        }
        dueDay("ob", 0, 1, 0);
        dueDay("vb1", 0, 1, 0);
        dueDay("oa", 0, 1, 0);
        due("what was not done is none to undo", x.count(8), 10);
        fresh("c", times("0v1>1;", 5) + "0v1>1");
        dueDay("of;m1", 2, 0, 1);
        dueDay("oe;vf1;m1", 1, 1, 0);
        due("the fifth is in the corridor", x.count(4), 16);
        fresh("c", "0v1>9");
        dueDay("oa;va9;va9;va9;va9;va9;va9;va9;va9;va9;va9;va9", 12, 0, 0);
        due("99 at most", group(0, 5), 99);
    }

    private static void dayTillOneCant() {
        fresh("rr", "0v1>11;5v1>11");
        dueDay("ob;oa;m1", 0, 1, 0);
        due("nothing is to undo", x.count(8), 0);
        due("nothing is done behind it", x.count(3), 3);
        dueDay("oa;ob;m9", 1, 1, 0);
        due("one is done", x.count(4), 1);
        due("no MINUTE went by", x.count(2), 0);
        due("one is to undo", x.count(8), 1);
        dueDay("m5;ob;m91;m9", 2, 1, 1);
        due("all behind it are left aside", x.count(2), 5);
        dueDay("m2;ob", 1, 1, 1);
        due("through", x.count(5), 3);
        due("undo", x.count(8), 3);
        dueDay("m0;m91", 1, 1, 0);
        due("m0 was done", x.count(8), 4);
        dueDay("m5;p5;m90;x", -11);
        due("nothing is done of what can't stand", x.count(2), 7);
    }

    // ---- 18

    private static void undoTwelve() {
        promise = 18;
        fresh("r", "0v1>1");
        due("none", x.undo(), -1);
        for (int k = 1; k <= 11; k++) x.stand(k);
        due("11", x.count(8), 11);
        x.stand(12);
        due("12", x.count(8), 12);
        for (int k = 11; k >= 0; k--) due("undo", x.undo(), k);
        due("all of 12", x.count(2), 0);
        due("none", x.undo(), -1);
        for (int k = 1; k <= 13; k++) x.stand(k);
        due("12 of 13", x.count(8), 12);
        for (int k = 11; k >= 0; k--) {
            due("undo", x.undo(), k);
            due("left that can be", x.count(8), k);
        }
        due("the first of 13 stays", x.count(2), 1);
        due("none", x.undo(), -1);
        due("now", x.count(2), 1);
        // more by 1 behind each undo
        for (int k = 0; k < 30; k++) {
            x.stand(2);
            x.stand(3);
            due("undo", x.undo(), Math.min(k + 1, 11));
        }
        due("now", x.count(2), 61);
        for (int k = 0; k < 11; k++) x.undo();
        due("none", x.undo(), -1);
        due("now", x.count(2), 39);
    }

    private static void undoWhatWasDone() {
        fresh("rr", "0v1>11;9v1>11");
        x.off(1);
        x.off(2);
        x.over(0, 1);
        x.stand(0);
        x.stand(61);
        x.minutes(0);
        x.minutes(91);
        x.minutes(-1);
        text("ob");
        x.day();
        text("");
        x.day();
        text("m");
        x.day();
        text("m91");
        x.day();
        due("nothing was done", x.count(8), 0);
        due("none", x.undo(), -1);
        x.keep(0);
        x.leave(0, 1);
        x.sheet(0, 2, 1, 1, 1);
        x.heard(0, 1, 0);
        text("s+1");
        x.rule();
        due("others are none to undo", x.count(8), 0);
        x.minute();
        x.minutes(1);
        x.stand(1);
        x.off(0);
        x.over(0, 1);
        text("m0");
        x.day();
        text("m1;m91");
        x.day();
        text("m1;m1;p1");
        x.day();
        due("eight were done", x.count(8), 8);
    }

    private static void undoForgotten() {
        fresh("rr", "0v1>11");
        x.keep(0);
        x.stand(1);
        dueGroups("", 0);
        dueGroups("x", -1);
        dueGroups("0v1>11;", -8);
        duePalace("", -1);
        duePalace("rrx", -3);
        due("again 1", x.again(1), false);
        due("again 2", x.again(2), false);
        due("refused ones forget nothing", x.count(8), 1);
        due("again 0", x.again(0), true);
        due("again() forgets", x.undo(), -1);
        x.stand(1);
        dueGroups("0v1>11", 1);
        due("groups() forgets", x.undo(), -1);
        due("now stays", x.count(2), 1);
        due("refused, as groups came", x.again(0), false);
        x.stand(1);
        due("again 0", x.again(0), false);
        due("a refused again() forgets nothing", x.count(8), 1);
        duePalace("rr", 2);
        due("palace() forgets", x.undo(), -1);
        due("now is 0", x.count(2), 0);
    }

    private static void undoBringsBack() {
        fresh("rr", "0v1>13;0v1>11;0v1>11");
        x.off(0);
        x.minute();
        x.off(1);
        x.minute();
        int[] at = {1, 0, -1};
        int[] left = {2, 0, 0};
        int[] waited = {0, 1, 0};
        text("m9;oc;m1");
        due("day", x.day(), 3);
        due("they are through", x.count(5), 3);
        due("undo", x.undo(), 4);
        due("now", x.count(2), 2);
        for (int g = 0; g < 3; g++) {
            due("where", group(g, 4), at[g]);
            due("left", group(g, 5), left[g]);
            due("waited", group(g, 6), waited[g]);
            due("when", group(g, 7), -1);
        }
        due("the rooms are taken again", x.off(2), -4);
        x.undo();
        x.undo();
        due("the first room is free again", x.off(2), 2);
    }

    /** The sixth GROUP is as the others: it waits, gets THROUGH, is undone and kept. */
    private static void sixthGroup() {
        fresh("rr", times("0v1>13;", 5) + "0v1>13");
        x.off(4);
        x.minute();
        x.off(5);
        due("minutes", x.minutes(3), 1);
        dueRow(16, 2);
        due("waited", group(5, 6), 2);
        due("waited", x.count(6), 2);
        x.keep(1);
        due("minutes", x.minutes(3), 1);
        dueRow(32, 0);
        due("through", group(5, 7), 6);
        x.undo();
        due("not through", group(5, 7), -1);
        due("where", group(5, 4), 1);
        due("left", group(5, 5), 3);
        x.minutes(9);
        due("again", x.again(1), true);
        due("not through", group(5, 7), -1);
        due("waited", group(5, 6), 2);
        x.minutes(2);
        x.keep(0);
        x.minutes(1);
        due("through", group(5, 7), 6);
        due("again", x.again(0), true);
        due("left", group(5, 5), 1);
    }

    // ---- 19, 20

    private static void where() {
        promise = 19;
        fresh("rr", "0v1>29;0v1>11;0v1>11");
        x.off(0);
        x.minutes(2);
        x.off(1);
        for (int n : new int[] {LOW, -1, 401, HIGH}) {
            due("n " + n, x.where(1, n), -2);
            due("n first", x.where(3, n), -2);
        }
        for (int g : new int[] {LOW, -1, 3, HIGH}) {
            due("none such", x.where(g, 0), -3);
            due("none such", x.where(g, 400), -3);
        }
        due("0: as it is", x.where(1, 0), 0);
        dueRow(1, 0);
        due("1", x.where(1, 1), 0);
        dueRow(0, 1);
        due("8", x.where(1, 8), 0);
        dueRow(0, 8);
        due("9", x.where(1, 9), 1);
        dueRow(1, 8);
        due("10", x.where(1, 10), 9);
        dueRow(0, 8);
        due("400", x.where(1, 400), 9);
        dueRow(0, 8);
        due("nobody sets off", x.where(2, 400), -1);
        dueRow(0, 0);
        fresh("rr", "0v1>11;0v1<11");
        x.off(0);
        x.off(1);
        due("399", x.where(0, 399), 0);
        dueRow(0, 399);
        due("400", x.where(0, 400), 0);
        dueRow(0, 400);
    }

    private static void stuck() {
        promise = 20;
        fresh("rr", "0v1>11;0v1<11;0v1>11");
        due("nobody is in a ROOM", x.stuck(), 0);
        dueRow(0);
        x.off(0);
        due("one", x.stuck(), 0);
        dueRow(2);
        x.off(1);
        due("both", x.stuck(), 3);
        dueRow(0);
        x.undo();
        x.minutes(2);
        due("through already", x.stuck(), 0);
        dueRow(0);
        // they can go by each other in the corridor
        fresh("rrrcr", "0v1>11111;0v1<11111;0v1>11111");
        x.off(0);
        x.minutes(4);
        due("in the last", group(0, 4), 4);
        x.off(2);
        x.minutes(1);
        due("off", x.off(1), 2);
        x.minutes(1);
        due("they go by", x.stuck(), 0);
        dueRow(4);
        fresh("rrrr", "0v1>1119;0v1<1111;0v1>1111;0v1<1111");
        x.off(0);
        x.minutes(3);
        x.over(0, 1);
        x.off(2);
        x.minutes(10);
        due("the first is through", group(0, 4), 9);
        due("off", x.off(1), -4);
        x.undo();
        x.minutes(2);
        due("two follow one another", x.stuck(), 0);
        dueRow(9);
        // one goes out at the far end, two stand before each other
        fresh("crrrc", "0v1>11119;0v1>11111;0v1<11111");
        x.off(0);
        x.minutes(4);
        due("in the corridor", group(0, 4), 4);
        x.off(1);
        x.off(2);
        due("two", x.stuck(), 6);
        dueRow(9);
    }

    /** What is in ROOMS and will be THROUGH at all is so in 399 MINUTES: 99 LEFT, then 30 a ROOM, each 30 behind the other. */
    private static void stuckNearly400() {
        fresh("crrrrr", SIX);
        dueRule("30", 0);
        for (int g = 0; g < 6; g++) {
            x.off(g);
            for (int k = 0; k < 3; k++) x.over(g, 30);
            due("left", group(g, 5), 99);
        }
        due("nobody is stuck", x.stuck(), 0);
        dueRow(399);
        due("398", x.where(5, 398), 5);
        dueRow(1, 150);
        due("399", x.where(5, 399), 9);
        dueRow(0, 150);
        due("late", x.late(5, 30), 0);
        dueRow(0, 0);
        x.minutes(90);
        due("from then on", x.stuck(), 0);
        dueRow(309);
        // it goes second then, and the second first
        due("late", x.late(0, 30), 0);
        dueRow(1, 30);
        due("its turn is later anyway", x.late(5, 30), 0);
        dueRow(0, 0);
    }

    // ---- 21

    /** Six one behind the other take 330 MINUTES from the first one's setting off. */
    private static void six(int comes) {
        String line = comes + "v1>111111";
        fresh("rrrrrr", line + ";" + line + ";" + line + ";" + line + ";" + line + ";" + line);
        dueRule("99", 0);
    }

    private static void orderOf400() {
        promise = 21;
        six(69);
        dueOrder("abcdef", 399, 249, 279, 309, 339, 369, 399, 0);
        six(70);
        dueOrder("abcdef", 400, 250, 280, 310, 340, 370, 400, 0);
        dueOrder("abcde", 370, 250, 280, 310, 340, 370, 0);
        six(71);
        dueOrder("a", 251, 251, 0);
        dueOrder("abcdef", -200);
        dueRow(251, 0);
        dueOrder("abcde", 371, 251, 281, 311, 341, 371, 0);
        x.minute();
        dueOrder("abcdef", 400, 250, 280, 310, 340, 370, 400, 0);
        x.stand(1);
        dueOrder("fedcba", 399, 249, 279, 309, 339, 369, 399, 0);
        // -100 is asked ahead of -200
        fresh("rr", "0v1>11;0v1<11;0v1<11");
        x.off(0);
        dueOrder("ab", -100);
        dueOrder("b", -200);
        dueOrder("bc", -200);
    }

    private static void orderSetsOff() {
        // ahead of the first MINUTE several set off, as long as they can
        fresh("cr", "0v1>11;0v1>11;0v1<11;1v1>11");
        dueOrder("ab", 3, 2, 3, 1);
        dueOrder("abd", 4, 2, 3, 4, 2);
        // one that can't keeps those behind it OUTSIDE
        dueOrder("dab", 5, 5, 3, 4, 3);
        fresh("rc", "5v1>11;0v1<11");
        dueOrder("ba", 7, 2, 7, 0);
        dueOrder("ab", 7, 7, 7, 0);
        // another one that is in a ROOM goes on as well, and in its turn is not waited for
        fresh("rr", "0v1>19;0v1>11;0v1<11");
        x.off(0);
        x.minute();
        dueOrder("b", 10, 10, 8);
        fresh("cc", "0v1>99;0v1>11");
        x.off(0);
        dueOrder("b", 2, 2, 0);
        // nobody sets off in a MINUTE in which the ROOM gets free, but ahead of the next
        fresh("r", "0v1>1;0v1>1");
        dueOrder("ab", 2, 1, 2, 0);
        fresh("r", "0v1>0;0v1>0");
        dueOrder("ab", 2, 1, 2, 0);
    }
}
