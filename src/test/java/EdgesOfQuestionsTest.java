/** Boundary cases of ORDERS, gaps, running over, joining, what was heard, seasons and what is kept: promises 22 to 43. */
public final class EdgesOfQuestionsTest extends Asking {
    private static final int LOW = Integer.MIN_VALUE;
    private static final int HIGH = Integer.MAX_VALUE;

    public static void main(String[] args) {
        ordersOf400();
        lastOrder();
        best();
        calm();
        many();
        those();
        gapAtLeast0();
        gapRooms();
        smooth();
        every();
        everyIn300();
        least();
        lateBy();
        lateTo99();
        lateStuck();
        slack();
        slackStuck();
        dies();
        diesTwenty();
        loss();
        pairs();
        brief();
        briefNone();
        briefOf400();
        heard();
        heardMinutes();
        heardIn300();
        fitsNumbers();
        fitsAsked();
        began();
        seasonNumbers();
        seasonDraws();
        keep();
        again();
        count();
        row();
        finish("the edges of questions hold");
    }

    // ---- 22 to 24

    /** Six one behind the other take 330 MINUTES from the first one's setting off. */
    private static void six(int comes) {
        String line = comes + "v1>111111";
        fresh("rrrrrr", line + ";" + line + ";" + line + ";" + line + ";" + line + ";" + line);
        dueRule("99", 0);
    }

    private static void ordersOf400() {
        six(70);
        promise = 22;
        due("best in 400", x.best(63), 400);
        dueRow(0, 1, 2, 3, 4, 5);
        promise = 23;
        due("calm in 400", x.calm(63), 0);
        dueRow(400, 0, 1, 2, 3, 4, 5);
        promise = 24;
        due("all in 400", x.many(63, 400), 720);
        dueRow(0);
        due("none in 399", x.many(63, 399), 0);
        dueRow(0);
        promise = 39;
        due("season", x.season(63, 5, 20), 20);
        dueRow(400, 400, 0);
        six(71);
        promise = 22;
        due("best not in 400", x.best(63), -2);
        due("five of them are", x.best(62), 371);
        promise = 23;
        due("calm not in 400", x.calm(63), -2);
        dueRow(1, 2, 3, 4, 5);
        promise = 24;
        due("none in 400", x.many(63, 400), 0);
        dueRow(720);
        due("none in 1", x.many(63, 1), 0);
        dueRow(720);
        promise = 39;
        due("season", x.season(63, 5, 20), 0);
        dueRow(-1, -1, -1);
        promise = 34;
        // the last one of an ORDER is THROUGH as soon as it leaves the fifth ROOM
        due("brief in 400, though best is not", x.brief(63), 371);
        dueRow(0, 5);
        x.minute();
        due("from then on", x.best(63), 400);
    }

    /** The last of 720 ORDERS is the only one that does. */
    private static void lastOrder() {
        // each comes just when the one ahead of it is THROUGH
        fresh("r", "45v1>9;36w1>9;27x1>9;18y1>9;9z1>9;0v1>9");
        promise = 22;
        due("best", x.best(63), 54);
        dueRow(5, 4, 3, 2, 1, 0);
        promise = 23;
        due("calm", x.calm(63), 0);
        dueRow(54, 5, 4, 3, 2, 1, 0);
        promise = 24;
        due("one in 54", x.many(63, 54), 1);
        due("none in 53", x.many(63, 53), 0);
        // heard: v, z, y, x, w, v, each in its time; the first v is short, so it is not a
        fresh("r", "0v1>9;0w1>2;0x1>2;0y1>2;0z1>2;0v1>2");
        int[] tongue = {0, 4, 3, 2, 1, 0};
        for (int k = 0; k < 6; k++) x.heard(0, 2 * k + 1, tongue[k]);
        promise = 37;
        due("fits", x.fits(63), 1);
        dueRow(5, 4, 3, 2, 1, 0);
        promise = 38;
        due("began", x.began(63), 32);
        dueRow(1);
        promise = 26;
        // each stays as long in the second ROOM as the next in the first
        fresh("rr", "0v1>60;0v1>56;0v1>45;0v1>34;0v1>23;0v1>12");
        due("smooth", x.smooth(63), 21);
        dueRow(5, 4, 3, 2, 1, 0, 0, 1, 3, 6, 10, 15);
    }

    private static void best() {
        promise = 22;
        fresh("r", "0v1>0");
        due("at least one MINUTE", x.best(1), 1);
        dueRow(0);
        fresh("rrrrrr", "0v1>000000");
        due("at least one MINUTE", x.best(1), 1);
        // as soon: less WAITED goes ahead of the least row
        fresh("rr", "0v1>13;0v1>11;50v1>11");
        due("as soon", x.best(7), 52);
        dueRow(1, 0, 2);
        // sooner goes ahead of less WAITED
        fresh("rr", "0v1>41;0v1>15");
        due("sooner, but one waits", x.best(3), 7);
        dueRow(1, 0);
        promise = 23;
        due("less WAITED, but later", x.calm(3), 0);
        dueRow(10, 0, 1);
        // of as good ones the least row
        promise = 22;
        fresh("r", "0v1>1;0v1>2;0v1>3");
        due("alike", x.best(7), 6);
        dueRow(0, 1, 2);
        due("alike", x.best(6), 5);
        dueRow(1, 2);
    }

    private static void calm() {
        promise = 23;
        fresh("r", "0v1>1;0v1>2;0v1>3");
        due("alike", x.calm(7), 0);
        dueRow(6, 0, 1, 2);
        // of as calm ones the soonest goes ahead of the least row
        fresh("rr", "0v1>51;0v1>15");
        due("calm", x.calm(3), 0);
        dueRow(7, 1, 0);
        // what others WAITED is left aside
        fresh("rr", "0v1>19;0v1>11;0v1>11");
        x.off(0);
        x.minute();
        x.off(1);
        x.minutes(3);
        due("others wait", x.count(6), 3);
        due("calm", x.calm(4), 0);
        dueRow(8, 2);
        fresh("rr", "0v1>19;0v1>11");
        x.off(0);
        x.minute();
        due("it waits for the other one", x.calm(2), 8);
        dueRow(10, 1);
    }

    private static void many() {
        promise = 24;
        fresh("rr", "0v9>32;0w5>14;2v8<22");
        int[] n = {LOW, -1, 0, 1, 6, 7, 8, 9, 10, 399, 400, 401, HIGH};
        int[] want = {-1, -1, -1, 0, 0, 1, 1, 2, 2, 2, 2, -1, -1};
        for (int k = 0; k < n.length; k++) due("in " + n[k], x.many(3, n[k]), want[k]);
        dueRow(0);
        due("head on", x.many(5, 400), 0);
        dueRow(2);
        // one ORDER of two gets stuck: who comes later sets off first, and the other with it
        fresh("rrr", "0v1>111;3v1<111");
        due("one ORDER", x.many(3, 400), 1);
        dueRow(1);
        fresh("rrr", "3v1>111;0v1<111");
        due("one ORDER", x.many(3, 400), 1);
        dueRow(1);
        due("in 6", x.many(3, 6), 1);
        due("in 5", x.many(3, 5), 0);
        dueRow(1);
        fresh("r", "0v1>0");
        due("in 1", x.many(1, 1), 1);
        dueRow(0);
    }

    /** Bits of GROUPS: each question with nobody, all, one too many, one that is not OUTSIDE. */
    private static void those() {
        fresh("r", times("0v1>1;", 5) + "0v1>1");
        for (int those : new int[] {0, 64, 65, 127, -1, LOW, LOW | 1, HIGH, 1 << 31 - 1}) dueAll(those, -1, -1);
        dueAll(63, 6, 720);
        dueAll(32, 1, 1);
        dueAll(1, 1, 1);
        due("off", x.off(5), 1);
        dueAll(32, -1, -1);
        dueAll(63, -1, -1);
        dueAll(31, 6, 120);
        x.minute();
        due("through", group(5, 4), 9);
        dueAll(32, -1, -1);
        dueAll(33, -1, -1);
        dueAll(31, 5, 120);
        x.undo();
        x.undo();
        dueAll(63, 6, 720);
        fresh("r", "0v1>1;0v1>1");
        dueAll(4, -1, -1);
        dueAll(5, -1, -1);
        dueAll(3, 2, 2);
        fresh("r", "");
        dueAll(0, -1, -1);
        dueAll(1, -1, -1);
    }

    private static void dueAll(int those, int minutes, int orders) {
        promise = 22;
        due("best " + those, x.best(those), minutes);
        promise = 23;
        due("calm " + those, x.calm(those), minutes < 0 ? -1 : 0);
        promise = 24;
        due("many " + those, x.many(those, 400), orders);
        promise = 34;
        due("brief " + those, x.brief(those) == -1, minutes == -1);
        promise = 37;
        due("fits " + those, x.fits(those), orders);
        promise = 38;
        due("began " + those, x.began(those), minutes < 0 ? -1 : those);
        promise = 39;
        due("season " + those, x.season(those, 1, 20), minutes < 0 ? -1 : 20);
    }

    // ---- 25, 26

    private static void dueGap(int ahead, int behind, int want, int room) {
        due("gap " + ahead + " " + behind, x.gap(ahead, behind), want);
        dueRow(room);
    }

    private static void gapAtLeast0() {
        promise = 25;
        // the corridor first: 1 + s, less 9
        fresh("cr", "0v1>10;0v1>90;0v1>18;0v1>19;0v1>17");
        dueGap(0, 1, 0, -1);
        dueGap(4, 1, 0, -1);
        dueGap(2, 1, 0, 1);
        dueGap(3, 1, 1, 1);
        fresh("cc", "0v1>99;0v1>11");
        dueGap(0, 1, 0, -1);
        dueGap(1, 0, 0, -1);
        for (int n = 1; n <= 6; n++) {
            fresh(times("c", n), "0v1>" + times("9", n) + ";0v1<" + times("9", n) + ";0v1>" + times("1", n) + ";0v1<" + times("1", n));
            dueGap(0, 2, 0, -1);
            dueGap(3, 1, 0, -1);
        }
        fresh("rc", "0v1>09;0v1>11");
        dueGap(0, 1, 0, 0);
        dueGap(1, 0, 1, 0);
        fresh("rr", "0v1>00;0v1>00");
        dueGap(0, 1, 0, 0);
        for (int g : new int[] {LOW, -1, 2, HIGH}) {
            due("none such", x.gap(g, 0), -1);
            due("none such", x.gap(0, g), -1);
        }
        due("like ones", x.gap(0, 0), -1);
        due("like ones", x.gap(1, 1), -1);
        due("none such, like ones", x.gap(2, 2), -1);
        dueRow(0);
    }

    private static void gapRooms() {
        // as much at several ROOMS: the first of their way
        fresh("rrr", "0v1>222;0v1>222;0v1<222;0v1<222");
        dueGap(0, 1, 2, 0);
        dueGap(2, 3, 2, 2);
        due("another way", x.gap(0, 2), -2);
        due("another way", x.gap(3, 1), -2);
        dueRow(2);
        fresh("crr", "0v1>121;0v1>112;0v1<121;0v1<211");
        // 3 - 1, 4 - 2: both 2
        dueGap(0, 1, 2, 1);
        // 2 - 1, 4 - 3
        dueGap(1, 0, 1, 1);
        // from ROOM 2: 1 - 0, 3 - 1
        dueGap(2, 3, 2, 1);
        fresh("rcr", "0v1>191;0v1>111");
        // 1, 11 - 2: the corridor takes time, but is no ROOM to wait for
        dueGap(0, 1, 9, 2);
        dueGap(1, 0, 1, 0);
        x.leave(0, 2);
        dueGap(0, 1, 1, 0);
        x.off(0);
        dueGap(0, 1, 1, 0);
    }

    private static void smooth() {
        promise = 26;
        fresh("rr", "9v1>32;7w5>14;2v8<22;0v8<11");
        for (int those : new int[] {0, 16, 17, 19, -1, LOW, HIGH}) due("smooth " + those, x.smooth(those), -1);
        for (int those : new int[] {5, 6, 7, 9, 15}) due("two ways " + those, x.smooth(those), -2);
        due("one, COMES left aside", x.smooth(1), 5);
        dueRow(0, 0);
        due("two", x.smooth(3), 7);
        dueRow(1, 0, 0, 2);
        // all of as soon ones: the least row
        fresh("r", times("9v1>2;", 5) + "9v1>2");
        due("six", x.smooth(63), 12);
        dueRow(0, 1, 2, 3, 4, 5, 0, 2, 4, 6, 8, 10);
        fresh("c", times("9v1>2;", 5) + "9v1>9");
        due("six at once", x.smooth(63), 9);
        dueRow(0, 1, 2, 3, 4, 5, 0, 0, 0, 0, 0, 0);
        x.minutes(90);
        x.off(5);
        due("those in ROOMS as well", x.smooth(32), 9);
        dueRow(5, 0);
        fresh("rc", "0v1<00;0v1<01");
        due("no time at all", x.smooth(1), 0);
        dueRow(0, 0);
        due("from behind", x.smooth(3), 1);
        dueRow(0, 1, 0, 0);
        fresh("r", "");
        due("nobody", x.smooth(0), -1);
        due("none such", x.smooth(1), -1);
    }

    // ---- 27, 28

    private static void every() {
        promise = 27;
        fresh("crcr", "0v1>9191;0v1>9090;0v1>9293;0v1<0303");
        due("as long in two", x.every(0), 1);
        dueRow(1, 281);
        due("0 in two", x.every(1), 0);
        dueRow(1, -1);
        due("the longest", x.every(2), 3);
        dueRow(3, (300 - 23) / 3 + 1);
        due("the first by numbers", x.every(3), 3);
        dueRow(1, 99);
        for (int g : new int[] {LOW, -1, 4, HIGH}) due("none such", x.every(g), -1);
        dueRow(1, 99);
        fresh("cc", "0v1>99;0v1>00");
        due("no room at all", x.every(0), 0);
        dueRow(-1, -1);
        due("no room at all", x.every(1), 0);
        dueRow(-1, -1);
    }

    private static void everyIn300() {
        fresh("cr", "0v1>09;0v1>19;0v1>01");
        dueRule("s*4-3", 0);
        // the tenth sets off in 270 and is THROUGH in just 300
        due("30", x.every(0), 30);
        dueRow(1, 10);
        // one MINUTE in the corridor more: it is so in 301
        due("30", x.every(1), 30);
        dueRow(1, 9);
        due("1", x.every(2), 1);
        dueRow(1, 300);
        fresh("rrrrrr", "0v1>999999");
        dueRule("s*9", 0);
        due("180 in all", x.every(0), 30);
        dueRow(0, 5);
    }

    private static void least() {
        promise = 28;
        fresh("rcr", "0v1>000;0v1>191;0v1>911");
        due("nobody", x.least(0), 0);
        dueRow(0, 0);
        due("one that stays nowhere", x.least(1), 0);
        dueRow(0, 1);
        due("the corridor counts for the GROUP alone", x.least(2), 11);
        dueRow(-1, 2);
        due("two with as much", x.least(6), 11);
        dueRow(-1, 6);
        due("all", x.least(7), 11);
        for (int those : new int[] {8, 15, -1, LOW, HIGH}) due("none such", x.least(those), -1);
        dueRow(-1, 6);
        fresh("cr", "0v1>06;0v1>06;0v1>62");
        due("as much by a room", x.least(7), 14);
        dueRow(1, 0);
        fresh("rr", "0v1>50;0v1>05;0v1>05");
        due("as much by a room and by a GROUP", x.least(3), 5);
        dueRow(0, 3);
        due("the second room has more", x.least(7), 10);
        dueRow(1, 0);
        fresh("rr", "0v1>50;0v1>50");
        due("the first room has most", x.least(3), 10);
        dueRow(0, 0);
        fresh("rrrrrr", "0v1>111119;0v1>111119;0v1>511111");
        due("the last room has most", x.least(7), 19);
        dueRow(5, 0);
        fresh("cc", "0v1>11");
        due("no room", x.least(0), 0);
        dueRow(-1, 0);
        due("no room", x.least(1), 2);
        dueRow(-1, 1);
        fresh("r", "");
        due("nobody", x.least(0), 0);
        dueRow(0, 0);
        due("none such", x.least(1), -1);
        x = new NoTwoInOneRoom();
        due("no ROOMS", x.least(0), 0);
        dueRow(-1, 0);
    }

    // ---- 29, 30

    private static void lateBy() {
        promise = 29;
        fresh("rr", "0v1>12;0v1>11;0v1>11");
        due("outside", x.late(0, 1), -1);
        x.off(0);
        x.minute();
        x.off(1);
        for (int n : new int[] {LOW, -1, 0, 31, HIGH}) due("by " + n, x.late(0, n), -1);
        for (int g : new int[] {LOW, -1, 2, 3, HIGH}) due("none such, or outside", x.late(g, 1), -1);
        due("1", x.late(0, 1), 1);
        dueRow(3, 2);
        due("30", x.late(0, 30), 30);
        dueRow(3, 60);
        // it waits 1 MINUTE anyway
        due("1", x.late(1, 1), 0);
        dueRow(0, 0);
        due("2", x.late(1, 2), 1);
        dueRow(2, 1);
        due("30", x.late(1, 30), 29);
        dueRow(2, 29);
        x.minutes(2);
        due("through", x.late(0, 1), -1);
        due("the other one alone", x.late(1, 7), 7);
        dueRow(2, 7);
        // the last one is not later, another one is
        fresh("cc", "0v1>19;0v1>11");
        x.off(0);
        x.off(1);
        due("not the last", x.late(1, 8), 0);
        dueRow(2, 8);
        due("just the last", x.late(1, 9), 1);
        dueRow(2, 9);
    }

    private static void lateTo99() {
        fresh("r", "0v1>9");
        x.off(0);
        x.over(0, 30);
        x.over(0, 30);
        due("69", group(0, 5), 69);
        due("just to 99", x.late(0, 30), 30);
        x.over(0, 1);
        due("99 at most", x.late(0, 30), 29);
        dueRow(1, 29);
        x.over(0, 28);
        due("98", group(0, 5), 98);
        due("1 at most", x.late(0, 2), 1);
        x.over(0, 1);
        due("no more", x.late(0, 1), 0);
        dueRow(0, 0);
    }

    private static void lateStuck() {
        // they go by each other in the corridor alone
        fresh("rrcr", "0v1>1111;0v1<1111");
        x.off(0);
        x.off(1);
        due("in time", x.late(0, 1), 1);
        dueRow(3, 2);
        due("stuck then", x.late(0, 2), -2);
        due("stuck then", x.late(0, 30), -2);
        dueRow(3, 2);
        fresh("rrcr", "0v1>3111;0v1<1111");
        x.off(0);
        x.off(1);
        due("stuck as it is", x.late(0, 1), -2);
        due("stuck as it is, not then", x.late(1, 5), -2);
        due("outside or none such goes ahead", x.late(2, 1), -1);
    }

    /** The first is in ROOM 1 with 1 LEFT, the second in ROOM 0 with so many. */
    private static void follow(int left) {
        fresh("rr", "0v1>11;0v1>11;0v1>11");
        x.off(0);
        x.minute();
        x.off(1);
        for (int n = left - 1; n > 0; n -= 30) x.over(1, Math.min(30, n));
        due("left", group(1, 5), left);
    }

    private static void slack() {
        promise = 30;
        int[] left = {1, 2, 3, 29, 30, 31, 32, 60, 99};
        int[] want = {0, 1, 2, 28, 29, 30, 30, 30, 30};
        for (int k = 0; k < left.length; k++) {
            follow(left[k]);
            due("slack with " + left[k], x.slack(0), want[k]);
            due("nobody is behind it", x.slack(1), 30);
        }
        // the lesser number is behind the greater
        fresh("rr", "0v1>91;0v1>14");
        x.off(1);
        x.minute();
        x.off(0);
        due("slack", x.slack(1), 5);
        follow(99);
        for (int g : new int[] {LOW, -1, 2, 3, HIGH}) due("none such, or outside", x.slack(g), -1);
        x.minutes(1);
        due("through", x.slack(0), -1);
        due("alone", x.slack(1), 30);
        // 99 LEFT at most, however much it runs over
        fresh("rr", "0v1>11;0v1>11");
        x.off(0);
        x.minute();
        x.off(1);
        for (int k = 0; k < 4; k++) {
            x.over(0, 30);
            x.over(1, 30);
        }
        due("left", group(0, 5), 99);
        due("it can be no more", x.slack(0), 30);
        due("nor the other", x.slack(1), 30);
    }

    private static void slackStuck() {
        fresh("rrcr", "0v1>1111;0v1<1111");
        x.off(0);
        x.off(1);
        due("the other is later by 1, never by 2", x.slack(0), 0);
        // with one MINUTE less LEFT they would go by each other
        fresh("rrcr", "0v1>3111;0v1<1111");
        x.off(0);
        x.off(1);
        due("stuck as it is", x.slack(0), -2);
        due("stuck as it is", x.slack(1), -2);
        fresh("rrcr", "0v1>2111;0v1<1111");
        x.off(0);
        x.off(1);
        due("just not stuck", x.slack(0), 0);
        // sooner is not later: by 3 and more the other goes first
        fresh("crc", "0v1>511;0v1<133");
        x.off(0);
        x.off(1);
        due("the greatest such", x.slack(1), 30);
        fresh("rr", "0v1>11;0v1<11;0v1>11");
        x.off(0);
        x.off(1);
        due("stuck", x.slack(0), -2);
        due("stuck", x.slack(1), -2);
        due("none such", x.slack(3), -1);
    }

    // ---- 31

    private static void dueDies(int n, int m, int want, int last) {
        due("dies " + n + " " + m, x.dies(0, n, m), want);
        dueRow(last);
    }

    private static void dies() {
        promise = 31;
        fresh("rcr", "0v1>194;0v1>090");
        due("every", x.every(0), 4);
        dueRow(2, (300 - 14) / 4 + 1);
        due("less than every()", x.dies(0, 3, 5), -2);
        due("less than every()", x.dies(0, 1, 60), -2);
        dueRow(2, (300 - 14) / 4 + 1);
        dueDies(4, 5, 20, 5);
        dueDies(5, 5, 4, 1);
        dueDies(5, 1, 0, 0);
        dueDies(5, 2, 1, 1);
        dueDies(6, 2, 0, 0);
        dueDies(6, 3, 1, 1);
        dueDies(60, 56, 0, 0);
        dueDies(60, 57, 1, 1);
        dueDies(60, 60, 1, 4);
        dueDies(4, 1, 20, 1);
        dueDies(4, 60, 20, 60);
        for (int n : new int[] {LOW, -1, 0, 61, HIGH}) {
            due("n " + n, x.dies(0, n, 5), -1);
            due("m " + n, x.dies(0, 5, n), -1);
            due("m " + n + " ahead of n less than every()", x.dies(0, 3, n), -1);
        }
        for (int g : new int[] {LOW, -1, 2, HIGH}) due("none such", x.dies(g, 5, 5), -1);
        dueRow(60);
    }

    private static void diesTwenty() {
        fresh("c", "0v1>9");
        dueDies(1, 20, 19, 1);
        dueDies(1, 21, 20, 1);
        dueDies(1, 22, 20, 2);
        dueDies(1, 60, 20, 40);
        dueDies(2, 40, 19, 2);
        dueDies(2, 41, 20, 1);
        dueDies(1, 1, 0, 0);
        dueDies(1, 2, 1, 1);
        dueDies(60, 60, 0, 0);
        dueDies(59, 60, 1, 1);
        fresh("r", "0v1>9");
        dueRule("99", 0);
        due("29", x.dies(0, 29, 1), -2);
        dueDies(30, 1, 20, 1);
        dueDies(31, 1, 0, 0);
    }

    // ---- 32 to 34

    private static void loss() {
        promise = 32;
        fresh("rc", "0v1>19;0v39>91;0v40>11;0w1>19;0v1<19;9v20>55");
        due("40 together", x.loss(0, 1), 8 + 8 * 39);
        due("40 together", x.loss(1, 0), 8 + 8 * 39);
        due("41 together", x.loss(0, 2), -2);
        due("41 together", x.loss(2, 0), -2);
        due("another TONGUE", x.loss(0, 3), -2);
        due("another way", x.loss(0, 4), -2);
        due("59 together", x.loss(1, 5), -2);
        due("21 together", x.loss(0, 5), 4 + 4 * 20);
        for (int g = 0; g < 6; g++) due("like ones", x.loss(g, g), -1);
        for (int g : new int[] {LOW, -1, 6, HIGH}) {
            due("none such", x.loss(g, 0), -1);
            due("none such", x.loss(0, g), -1);
        }
        fresh("rr", "0v20>11;0v20>11");
        due("as long: nothing", x.loss(0, 1), 0);
        x.off(0);
        x.minutes(9);
        due("wherever they are", x.loss(0, 1), 0);
        fresh("rrrrrr", "0v20>000000;0v20>999999");
        dueRule("s*9", 0);
        due("the most", x.loss(0, 1), 6 * 30 * 20);
    }

    private static void pairs() {
        promise = 33;
        x = new NoTwoInOneRoom();
        due("nobody", x.pairs(), 0);
        dueRow(0);
        fresh("r", "0v1>1");
        due("one", x.pairs(), 0);
        dueRow(0, -1);
        fresh("r", "0v20>1;0v20>1");
        due("40", x.pairs(), 1);
        dueRow(0, 1, 0);
        fresh("r", "0v20>1;0v21>1");
        due("41", x.pairs(), 0);
        dueRow(0, -1, -1);
        fresh("r", times("0v1>1;", 5) + "0v1>1");
        due("six", x.pairs(), 3);
        dueRow(0, 1, 0, 3, 2, 5, 4);
        fresh("r", times("0v1>1;", 4) + "0v1>1");
        due("five", x.pairs(), 2);
        dueRow(0, -1, 2, 1, 4, 3);
        // more pairs, though more is lost
        fresh("r", "0v1>0;0v20>0;0v20>0;0v30>9");
        due("two", x.pairs(), 2);
        dueRow(9, 3, 2, 1, 0);
        // as many, as little lost: the least row
        fresh("r", "0v1>1;0v1>1;0v1>2;0v1>2;0w1>2;0w1>2");
        due("three", x.pairs(), 3);
        dueRow(0, 1, 0, 3, 2, 5, 4);
        fresh("r", "0v1>1;0v1>2;0v1>3;0v1>2");
        // 01 23: 2; 02 13: 2; 03 12: 2
        due("two", x.pairs(), 2);
        dueRow(2, 1, 0, 3, 2);
    }

    private static void brief() {
        promise = 34;
        // of as soon ones the first GROUP, then the first ROOM
        fresh("cc", "0v1>55;0v1>55");
        due("best", x.best(3), 10);
        due("one alone betters nothing", x.brief(3), 10);
        dueRow(-1, -1);
        due("the first ROOM", x.brief(1), 5);
        dueRow(0, 1);
        fresh("ccc", "0v1>155");
        due("of two as soon ones the first", x.brief(1), 6);
        dueRow(0, 1);
        fresh("cc", "0v1>11");
        due("by one MINUTE", x.brief(1), 1);
        dueRow(0, 1);
        fresh("cc", "0v1>10");
        due("by none", x.brief(1), 1);
        dueRow(-1, -1);
        fresh("r", "0v1>5;0v1>5");
        due("of two as soon ones the first GROUP", x.brief(3), 6);
        dueRow(0, 0);
        // what is LEFT OUT already is no more to be left out
        x.leave(0, 1);
        due("besides", x.brief(3), 2);
        dueRow(1, 0);
        due("as it was", group(0, 8), 1);
        x.leave(1, 1);
        due("none is better", x.brief(3), 2);
        dueRow(-1, -1);
    }

    private static void briefNone() {
        // any GROUP, also one that is in a ROOM; one that is THROUGH is of no use
        fresh("rr", "0v1>19;0v1>11");
        x.off(0);
        due("the one ahead", x.brief(2), 3);
        dueRow(0, 1);
        fresh("rrr", "0v1>111;0v1<111");
        due("they meet", x.best(3), -2);
        due("whatever is left out", x.brief(3), -2);
        due("no such row yet", x.count(9), 0);
        // head on in two ROOMS: one that is through its first at once lets nobody by
        fresh("rr", "0v9>32;0w5>14;2v8<22");
        due("best is none", x.best(5), -2);
        due("brief is", x.brief(5), 7);
        dueRow(0, 0);
    }

    /** Five from the front, 30 MINUTES in each of five rooms, keep the last one taken till all are THROUGH, 270 behind the first setting off; then one from behind. */
    private static void fiveAndOne(int comes) {
        fresh("rrrrr", times(comes + "v1>11111;", 5) + comes + "v1<11111");
        dueRule("30", 0);
        due("420 from when they come", x.best(63), -2);
    }

    private static void briefOf400() {
        // the last one from the front leaves out the last room: 30 sooner; a first room left out takes 1 MINUTE still
        fiveAndOne(9);
        due("a MINUTE less", x.brief(63), 399);
        dueRow(0, 4);
        fiveAndOne(10);
        due("just in 400", x.brief(63), 400);
        dueRow(0, 4);
        fiveAndOne(11);
        due("not in 400", x.brief(63), -2);
        due("the row stays", x.count(9), 0);
    }

    // ---- 35 to 38

    private static void heard() {
        promise = 35;
        for (int rooms = 1; rooms <= 6; rooms += 5) {
            fresh(times("r", rooms), "");
            for (int r : new int[] {LOW, -1, rooms, HIGH}) due("no such ROOM", x.heard(r, 1, 0), -1);
            due("the last", x.heard(rooms - 1, 1, 0), 1);
        }
        fresh("rr", "");
        int[] n = {LOW, -1, 0, 301, HIGH};
        for (int k : n) due("minute " + k, x.heard(0, k, 0), -1);
        int[] tongue = {LOW, -2, 5, HIGH};
        for (int k : tongue) due("tongue " + k, x.heard(0, 1, k), -1);
        due("none yet", x.count(7), 0);
        due("1", x.heard(0, 1, 0), 1);
        due("300", x.heard(0, 300, 0), 2);
        due("4", x.heard(0, 2, 4), 3);
        due("nobody", x.heard(0, 2, -1), 4);
        for (int k = 5; k <= 12; k++) due("as often", x.heard(0, 2, -1), k);
        due("13", x.heard(0, 2, -1), -1);
        due("12", x.count(7), 12);
        promise = 36;
        due("forget", x.forget(), 12);
        due("forgotten", x.count(7), 0);
        due("forget", x.forget(), 0);
        due("1 again", x.heard(0, 1, 0), 1);
        due("forget", x.forget(), 1);
    }

    /** Whether the only ORDER of GROUP 0 fits what was heard. */
    private static void dueHeard(int room, int n, int tongue, int want) {
        x.forget();
        due("heard", x.heard(room, n, tongue), 1);
        due("fits " + room + " " + n + " " + tongue, x.fits(1), want);
        if (want == 1) dueRow(0);
        else dueRow();
    }

    private static void heardMinutes() {
        promise = 37;
        fresh("rr", "0w1>32");
        for (int n = 1; n <= 7; n++) {
            boolean first = n <= 2;
            boolean second = n == 3 || n == 4;
            dueHeard(0, n, 1, first ? 1 : 0);
            dueHeard(1, n, 1, second ? 1 : 0);
            dueHeard(0, n, -1, first ? 0 : 1);
            dueHeard(1, n, -1, second ? 0 : 1);
            for (int tongue = 0; tongue <= 4; tongue += 2) dueHeard(0, n, tongue, 0);
        }
        // it comes in MINUTE 2
        fresh("r", "2w1>3");
        for (int n = 1; n <= 6; n++) dueHeard(0, n, 1, n >= 3 && n <= 4 ? 1 : 0);
        x.minute();
        for (int n = 1; n <= 6; n++) dueHeard(0, n, 1, n >= 2 && n <= 3 ? 1 : 0);
        x.stand(9);
        for (int n = 1; n <= 6; n++) dueHeard(0, n, 1, n <= 2 ? 1 : 0);
        // any of them in a corridor
        fresh("c", "0v1>2;0w1>2");
        x.heard(0, 1, 0);
        x.heard(0, 1, 1);
        due("both", x.fits(3), 2);
        dueRow(0, 1);
        x.heard(0, 1, -1);
        due("not nobody", x.fits(3), 0);
        dueRow();
    }

    private static void heardIn300() {
        // two one behind the other: the second is in the last ROOM behind MINUTES 279 to 308
        fresh("rrrrrr", "99v1>111111;99w1>111111");
        dueRule("30", 0);
        x.heard(5, 300, 1);
        due("the second is there", x.fits(3), 1);
        dueRow(0, 1);
        x.forget();
        x.heard(5, 300, -1);
        due("somebody is there", x.fits(3), 0);
        x.forget();
        x.heard(5, 299, 0);
        due("the other way round", x.fits(3), 1);
        dueRow(1, 0);
        x.heard(0, 300, -1);
        due("and nobody in the first", x.fits(3), 1);
        x.heard(4, 300, 0);
        due("but in the last but one", x.fits(3), 0);
    }

    private static void fitsNumbers() {
        fresh("r", times("0v1>1;", 5) + "0v1>1");
        due("nothing was heard", x.fits(63), 720);
        dueRow(0, 1, 2, 3, 4, 5);
        due("one", x.fits(8), 1);
        dueRow(3);
        x.heard(0, 1, 4);
        due("none fits", x.fits(63), 0);
        dueRow();
        due("none behind it", row(0), THROWS);
        // what was heard counts from when it is asked for
        fresh("r", "0v1>3");
        x.heard(0, 2, 0);
        due("from now", x.fits(1), 1);
        x.minutes(90);
        due("from then", x.fits(1), 1);
        // ORDERS that get stuck fit as well
        fresh("rr", "0v1>11;0w1<11");
        x.heard(0, 300, 0);
        x.heard(1, 300, 1);
        due("both", x.fits(3), 2);
        // all twelve must be so, the last as well
        fresh("r", "0v1>9");
        for (int n = 1; n <= 11; n++) x.heard(0, 8, 0);
        due("eleven", x.fits(1), 1);
        x.heard(0, 9, 0);
        due("the twelfth is not so", x.fits(1), 0);
    }

    private static void fitsAsked() {
        // c is heard ahead of b's coming: it must be ahead of b, wherever a and d are
        fresh("c", "0v1>9;5w1>9;0x1>9;0z1>9");
        x.heard(0, 2, 2);
        due("half of all", x.fits(15), 12);
        dueRow(0, 2, 1, 3);
        due("of three", x.fits(7), 3);
        dueRow(0, 2, 1);
        due("began", x.began(15), 13);
        dueRow(11);
        // MINUTES count from when it is asked for, those in which nobody steps on as well
        fresh("r", "0v1>9");
        x.minutes(40);
        for (int n = 1; n <= 12; n++) {
            dueHeard(0, n, 0, n < 9 ? 1 : 0);
            dueHeard(0, n, 1, 0);
            dueHeard(0, n, -1, n < 9 ? 0 : 1);
        }
        // two of them: the first so, the second not, and the other way round
        x.forget();
        x.heard(0, 3, 0);
        x.heard(0, 2, 1);
        due("the second is not so", x.fits(1), 0);
        x.forget();
        x.heard(0, 2, 1);
        x.heard(0, 3, 0);
        due("the first is not so", x.fits(1), 0);
        // it is asked with others in ROOMS
        fresh("rr", "0v1>39;0w1>11");
        x.off(0);
        x.minutes(1);
        x.heard(0, 1, 0);
        x.heard(1, 2, 0);
        x.heard(0, 3, 1);
        due("b sets off when a has stepped on", x.fits(2), 1);
        x.heard(0, 10, 1);
        due("and waits", x.fits(2), 1);
        x.heard(0, 11, 1);
        due("not as long", x.fits(2), 0);
    }

    private static void began() {
        promise = 38;
        fresh("rr", "0v1>11;0w1>11;0x1>11");
        due("one", x.began(2), 2);
        dueRow(2);
        due("all", x.began(7), 7);
        dueRow(7);
        x.heard(1, 1, 1);
        due("b is first", x.began(7), 2);
        dueRow(5);
        x.heard(1, 3, 2);
        due("c is last", x.began(7), 2);
        dueRow(4);
        x.heard(1, 2, 2);
        due("none", x.began(7), 0);
        dueRow(0);
    }

    // ---- 39

    private static void seasonNumbers() {
        promise = 39;
        fresh("r", "0v1>1;0v1>2");
        for (int n : new int[] {LOW, -1, 0, 21, HIGH}) due("n " + n, x.season(3, 1, n), -1);
        due("no such row yet", x.count(9), 0);
        for (int n : new int[] {1, 2, 19, 20}) {
            due("n " + n, x.season(3, 1, n), n);
            dueRow(3, 3, 0);
        }
        // asked for as the first thing in a state that is another one
        x.stand(9);
        due("from then", x.season(3, 1, 20), 20);
        dueRow(3, 3, 0);
        fresh("rr", "0v1>11;0v1<11;9v1>11");
        due("both fit", x.fits(3), 2);
        due("but are stuck", x.season(3, 1, 20), 0);
        dueRow(-1, -1, -1);
        x.minutes(9);
        due("the third has come", x.season(4, 1, 1), 1);
        dueRow(2, 2, 0);
        fresh("r", "0v1>1;0v1>2");
        for (int seed : new int[] {LOW, -1, 0, HIGH}) due("any seed", x.season(3, seed, 20), 20);
        for (int those : new int[] {0, 4, 7, -1, LOW, HIGH}) due("those " + those, x.season(those, 1, 1), -1);
    }

    /** The draws once more, as words say them: R without sign, by 65536, what is left of the division. */
    private static void seasonDraws() {
        for (int seed : new int[] {0, 1, -1, 77, LOW, HIGH, 123456789}) {
            for (int those : new int[] {1, 3, 6, 7, 15, 14}) {
                fresh("rrr", "0v1>321;2w1>149;4x1>252;0v1<111");
                long r = seed & 0xffffffffL;
                int good = 0;
                int soonest = -1;
                int latest = -1;
                int day = -1;
                for (int k = 0; k < 20; k++) {
                    StringBuilder left = new StringBuilder();
                    for (int g = 0; g < 4; g++) if ((those >> g & 1) == 1) left.append((char) ('a' + g));
                    StringBuilder drawn = new StringBuilder();
                    while (left.length() > 0) {
                        r = (r * 1103515245L + 12345L) % (1L << 32);
                        int at = (int) (r / 65536 % left.length());
                        drawn.append(left.charAt(at));
                        left.deleteCharAt(at);
                    }
                    text(drawn.toString());
                    int minutes = x.order();
                    if (minutes < 0) continue;
                    good++;
                    if (minutes > latest) latest = minutes;
                    if (soonest < 0 || minutes < soonest) {
                        soonest = minutes;
                        day = k;
                    }
                }
                due("season " + those + " " + seed, x.season(those, seed, 20), good);
                dueRow(soonest, latest, day);
            }
        }
    }

    // ---- 40 to 43

    private static void keep() {
        promise = 40;
        x = new NoTwoInOneRoom();
        for (int i : new int[] {LOW, -1, 2, HIGH}) due("keep " + i, x.keep(i), false);
        due("nothing kept", x.again(0), false);
        due("0", x.keep(0), true);
        due("under 1 nothing is kept", x.again(1), false);
        due("1", x.keep(1), true);
        due("0", x.again(0), true);
        due("1", x.again(1), true);
        fresh("r", "0v1>9");
        x.keep(0);
        x.stand(5);
        x.keep(1);
        x.stand(5);
        x.keep(2);
        x.keep(-1);
        due("again 0", x.again(0), true);
        due("now", x.count(2), 0);
        due("again 1", x.again(1), true);
        due("now", x.count(2), 5);
        x.keep(0);
        due("again 0", x.again(0), true);
        due("kept anew", x.count(2), 5);
        due("keeping is none to undo", x.count(8), 0);
    }

    private static void again() {
        promise = 41;
        fresh("rr", "0v1>13;0v1>11");
        x.off(0);
        x.minute();
        x.off(1);
        x.minutes(2);
        x.keep(1);
        for (int i : new int[] {LOW, -1, 0, 2, HIGH}) due("again " + i, x.again(i), false);
        due("refused ones forget nothing", x.count(8), 4);
        x.minutes(90);
        x.stand(9);
        due("again", x.again(1), true);
        due("now", x.count(2), 3);
        due("where", group(0, 4), 1);
        due("left", group(0, 5), 1);
        due("waited", group(1, 6), 2);
        due("not through", group(0, 7), -1);
        due("none to undo", x.count(8), 0);
        x.minutes(1);
        due("again and again", x.again(1), true);
        due("now", x.count(2), 3);
        dueGroups("x", -1);
        dueGroups("", 0);
        due("nobody came", x.again(1), true);
        dueGroups("0v1>11", 1);
        due("one came", x.again(1), false);
        due("one came", x.count(1), 3);
        x.keep(0);
        due("kept since", x.again(0), true);
        due("not kept since", x.again(1), false);
        duePalace("x", -1);
        due("a refused palace()", x.again(0), true);
        duePalace("rr", 2);
        due("the palace is anew", x.again(0), false);
        due("the palace is anew", x.again(1), false);
        dueGroups("0v1>13;0v1>11", 2);
        due("as many, but others", x.again(1), false);
        dueGroups("0v1>11", 1);
        due("as many, but others", x.again(0), false);
        due("as many, but others", x.again(1), false);
        // THROUGH and when are brought back as well
        fresh("r", "0v1>1");
        x.off(0);
        x.minutes(3);
        x.keep(0);
        due("through", group(0, 7), 0);
        x.undo();
        due("not through", group(0, 7), -1);
        due("again", x.again(0), true);
        due("through", group(0, 7), 0);
        due("through", x.count(5), 1);
    }

    private static void count() {
        promise = 42;
        for (int what : new int[] {LOW, -1, 11, 12, HIGH}) due("count " + what, x.count(what), -1);
        fresh("rrrrrr", times("0v1>111111;", 5) + "0v1>111111");
        int[] first = {6, 6, 0, 63, 0, 0, 0, 0, 0, 0, 0};
        for (int what = 0; what <= 10; what++) due("count " + what, x.count(what), first[what]);
        for (int g = 5; g >= 3; g--) {
            x.off(g);
            x.minutes(3);
        }
        x.heard(0, 1, 0);
        x.sign(0);
        int[] then = {6, 6, 9, 7, 8, 48, 0, 1, 6, 2, 4};
        for (int what = 0; what <= 10; what++) due("count " + what, x.count(what), then[what]);
    }

    private static void row() {
        promise = 43;
        fresh("r", times("9v1>2;", 5) + "9v1>2");
        for (int i : new int[] {LOW, -1, 0, 1, HIGH}) due("no ROW yet", row(i), THROWS);
        x.smooth(63);
        due("twelve numbers", x.count(9), 12);
        due("the last", row(11), 10);
        for (int i : new int[] {LOW, -1, 12, 13, HIGH}) due("row " + i, row(i), THROWS);
        x.stand(9);
        x.off(0);
        x.over(0, 1);
        x.undo();
        x.stay(0, 0);
        x.loss(0, 1);
        x.slack(0);
        x.leave(0, 0);
        x.heard(0, 1, 0);
        x.forget();
        x.keep(0);
        x.again(0);
        dueRule("s", 0);
        due("calls that tell none leave it", x.count(9), 12);
        due("the last", row(11), 10);
        x.every(0);
        dueRow(0, 150);
        x.stuck();
        dueRow(2);
        duePalace("r", 1);
        dueGroups("0v1>2", 1);
        dueRow(2);
        x.heard(0, 2, 0);
        x.fits(1);
        dueRow();
        due("none", row(0), THROWS);
    }
}
