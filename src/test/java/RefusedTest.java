import java.util.ArrayList;
import java.util.List;
import java.util.function.Supplier;
import java.util.function.ToIntFunction;

/** Refused calls change nothing but THE TEXT that they read, and questions nothing but the ROW: behind them all is as in a twin that was not asked. */
public final class RefusedTest extends Asking {
    private static final int LOW = Integer.MIN_VALUE;
    private static final int HIGH = Integer.MAX_VALUE;

    public static void main(String[] args) {
        palaceCalls();
        textCalls();
        minuteCalls();
        orderCalls();
        gapCalls();
        overCalls();
        joiningCalls();
        heardCalls();
        keptCalls();
        bareCalls();
        stuckCalls();
        fullCalls();
        questions();
        oneBehindAnother();
        finish("what is refused changes nothing");
    }

    // ---- worlds

    /** GROUP 0 is THROUGH, 1 and 4 are in ROOMS, 2 is OUTSIDE and has come, 3 has not; one more could come. */
    private static NoTwoInOneRoom rich() {
        NoTwoInOneRoom y = made("rcrr", "0v9>1213;0w5>1129;2v8>2211;99x20<1111;0v7>9112");
        type(y, "s+c");
        y.rule();
        y.leave(2, 4);
        y.keep(0);
        y.heard(0, 2, 0);
        y.heard(2, 3, NoTwoInOneRoom.NONE);
        y.off(0);
        y.minutes(12);
        y.off(1);
        y.minutes(7);
        y.off(4);
        y.over(4, 2);
        y.stand(3);
        y.smooth(3);
        type(y, "m7;p3");
        return y;
    }

    private static NoTwoInOneRoom bare() {
        NoTwoInOneRoom y = made("rc", "");
        type(y, "z");
        y.rule();
        y.minute();
        y.keep(1);
        type(y, "m3");
        return y;
    }

    /** GROUPS 0 and 1 stand before each other for ever; 2 is OUTSIDE. */
    private static NoTwoInOneRoom stuck() {
        NoTwoInOneRoom y = made("rr", "0v9>11;0w5<11;0v8<11;0v8>12");
        y.off(0);
        y.off(1);
        y.minutes(5);
        y.heard(1, 2, 1);
        y.least(15);
        type(y, "p3");
        return y;
    }

    /** As much of all as there can be. */
    private static NoTwoInOneRoom full() {
        NoTwoInOneRoom y = made("rrrrrr", times("1v1>111111;", 5) + "1v1>222222");
        for (int k = 0; k < 12; k++) y.heard(k % 6, k + 1, NoTwoInOneRoom.NONE);
        for (int k = 1; k <= 13; k++) y.stand(k);
        y.keep(0);
        y.keep(1);
        y.pairs();
        y.end(0);
        for (int k = 0; k < 20; k++) y.sign(0x72637263);
        return y;
    }

    // ---- all that can be seen of an object

    private static List<Integer> look(NoTwoInOneRoom y, boolean rowToo) {
        List<Integer> seen = new ArrayList<>();
        for (int what = 0; what <= 10; what++) if (what != 9 || rowToo) seen.add(y.count(what));
        for (int i = 0; rowToo && i < y.count(9); i++) seen.add(y.row(i));
        for (int g = 0; g < y.count(1); g++) {
            for (int what = 0; what < 9; what++) seen.add(y.group(g, what));
            for (int r = 0; r < y.count(0); r++) seen.add(y.stay(g, r));
        }
        for (int r = 0; r < y.count(0); r++) for (int what = 0; what < 2; what++) seen.add(y.room(r, what));
        int outside = y.count(3);
        seen.add(y.fits(outside));
        for (int i = 0; y.fits(outside) > 0 && i < y.count(9); i++) seen.add(y.row(i));
        seen.add(y.day());
        lookBack(y, seen);
        for (int i = 0; i < 2; i++) {
            seen.add(y.again(i) ? 1 : 0);
            lookShortly(y, seen);
        }
        seen.add(y.forget());
        return seen;
    }

    private static void lookBack(NoTwoInOneRoom y, List<Integer> seen) {
        lookShortly(y, seen);
        for (int k = 0; k < 13; k++) {
            seen.add(y.undo());
            lookShortly(y, seen);
        }
    }

    private static void lookShortly(NoTwoInOneRoom y, List<Integer> seen) {
        for (int what = 2; what < 7; what++) seen.add(y.count(what));
        for (int g = 0; g < y.count(1); g++) {
            seen.add(y.group(g, 5));
            seen.add(y.group(g, 7));
        }
    }

    private static void alike(String call, NoTwoInOneRoom asked, NoTwoInOneRoom twin, boolean rowToo) {
        if (!look(asked, rowToo).equals(look(twin, rowToo))) {
            wrong++;
            System.out.println("promise " + promise + ": " + call + " changed something");
        }
    }

    private static void refused(Supplier<NoTwoInOneRoom> world, String call, int want, ToIntFunction<NoTwoInOneRoom> asking) {
        x = world.get();
        due(call, asking.applyAsInt(x), want);
        alike(call, x, world.get(), true);
    }

    private static void refused(Supplier<NoTwoInOneRoom> world, String call, ToIntFunction<NoTwoInOneRoom> asking) {
        refused(world, call, NoTwoInOneRoom.NONE, asking);
    }

    /** THE TEXT is emptied, though. */
    private static void refusedText(Supplier<NoTwoInOneRoom> world, String signs, int want, ToIntFunction<NoTwoInOneRoom> asking) {
        x = world.get();
        type(x, signs);
        due("text " + signs, asking.applyAsInt(x), want);
        due("text is emptied", x.count(10), 0);
        NoTwoInOneRoom twin = world.get();
        twin.end(0);
        alike("text " + signs, x, twin, true);
    }

    // ---- refused calls

    private static void palaceCalls() {
        promise = 3;
        for (int n : new int[] {LOW, -1, 6, 7, 80, HIGH}) refused(RefusedTest::rich, "end " + n, 0, y -> y.end(n) ? 1 : 0);
        promise = 7;
        for (int g : new int[] {LOW, -1, 5, 6, HIGH}) refused(RefusedTest::rich, "group " + g, THROWS, y -> group(g, 0));
        for (int w : new int[] {LOW, -1, 9, HIGH}) refused(RefusedTest::rich, "group what " + w, THROWS, y -> group(0, w));
        promise = 8;
        for (int r : new int[] {LOW, -1, 4, 5, HIGH}) refused(RefusedTest::rich, "room " + r, THROWS, y -> room(r, 0));
        for (int w : new int[] {LOW, -1, 3, HIGH}) refused(RefusedTest::rich, "room what " + w, THROWS, y -> room(0, w));
        promise = 9;
        for (int g : new int[] {LOW, -1, 5, HIGH}) refused(RefusedTest::rich, "stay " + g, y -> y.stay(g, 0));
        for (int r : new int[] {LOW, -1, 4, HIGH}) refused(RefusedTest::rich, "stay in " + r, y -> y.stay(0, r));
        promise = 10;
        for (int g : new int[] {LOW, -1, 5, HIGH}) refused(RefusedTest::rich, "leave " + g, y -> y.leave(g, 1));
        for (int b : new int[] {LOW, -1, 16, 17, 31, 32, HIGH}) refused(RefusedTest::rich, "leave bits " + b, y -> y.leave(2, b));
        promise = 11;
        for (int k : new int[] {LOW, -1, 4, HIGH}) refused(RefusedTest::rich, "sheet kind " + k, y -> y.sheet(0, k, 2, 3, 1));
        for (int r : new int[] {LOW, -1, 4, HIGH}) refused(RefusedTest::rich, "sheet room " + r, y -> y.sheet(r, 2, 2, 3, 1));
        for (int k = 0; k < 4; k++) {
            int kind = k;
            for (int n : new int[] {7, 8, HIGH}) refused(RefusedTest::rich, "sheet n " + n, y -> y.sheet(0, kind, n, 3, 1));
        }
        for (int k = 0; k < 3; k++) {
            int kind = k;
            for (int n : new int[] {LOW, -2, -1}) refused(RefusedTest::rich, "sheet n " + n, -2, y -> y.sheet(0, kind, n, 3, 1));
            refused(RefusedTest::rich, "these first: no such room", y -> y.sheet(4, kind, -1, 3, 1));
        }
        refused(RefusedTest::rich, "these first: another kind", y -> y.sheet(0, 4, -1, 3, 1));
        refused(RefusedTest::rich, "these first: another kind below", y -> y.sheet(0, -1, -1, 3, 1));
        refused(RefusedTest::rich, "these first: no such room for a missing one", y -> y.sheet(4, 3, 0, 0, 0));
        promise = 42;
        for (int w : new int[] {LOW, -1, 11, HIGH}) refused(RefusedTest::rich, "count " + w, y -> y.count(w));
        promise = 43;
        for (int i : new int[] {LOW, -1, 4, 5, 12, HIGH}) refused(RefusedTest::rich, "row " + i, THROWS, y -> row(i));
    }

    private static void textCalls() {
        promise = 4;
        refusedText(RefusedTest::rich, "", -1, NoTwoInOneRoom::palace);
        refusedText(RefusedTest::rich, "x", -1, NoTwoInOneRoom::palace);
        refusedText(RefusedTest::rich, "crx", -3, NoTwoInOneRoom::palace);
        refusedText(RefusedTest::rich, "crcrcrc", -7, NoTwoInOneRoom::palace);
        promise = 5;
        refusedText(RefusedTest::rich, "x", -1, NoTwoInOneRoom::groups);
        refusedText(RefusedTest::rich, "0v9>999", -8, NoTwoInOneRoom::groups);
        refusedText(RefusedTest::rich, "0v41>9999", -4, NoTwoInOneRoom::groups);
        refusedText(RefusedTest::rich, "0v9>9999;", -10, NoTwoInOneRoom::groups);
        refusedText(RefusedTest::rich, "0v9>9999;0v9>9999", -10, NoTwoInOneRoom::groups);
        promise = 6;
        refusedText(RefusedTest::rich, "q", -1, NoTwoInOneRoom::rule);
        refusedText(RefusedTest::rich, "z+", -3, NoTwoInOneRoom::rule);
        refusedText(RefusedTest::rich, "z+(((((1)))))", -7, NoTwoInOneRoom::rule);
        refusedText(RefusedTest::rich, times("-", 40) + "z", -41, NoTwoInOneRoom::rule);
        promise = 17;
        refusedText(RefusedTest::rich, "x", -1, NoTwoInOneRoom::day);
        refusedText(RefusedTest::rich, "m5;oc;p", -8, NoTwoInOneRoom::day);
        refusedText(RefusedTest::rich, times("m1;", 20) + "m1", -61, NoTwoInOneRoom::day);
        promise = 21;
        refusedText(RefusedTest::rich, "", -1, NoTwoInOneRoom::order);
        refusedText(RefusedTest::rich, "f", -1, NoTwoInOneRoom::order);
        refusedText(RefusedTest::rich, "cc", -2, NoTwoInOneRoom::order);
        refusedText(RefusedTest::rich, "c;", -2, NoTwoInOneRoom::order);
        refusedText(RefusedTest::rich, "ca", -100, NoTwoInOneRoom::order);
        refusedText(RefusedTest::rich, "b", -100, NoTwoInOneRoom::order);
        refusedText(RefusedTest::stuck, "c", -200, NoTwoInOneRoom::order);
    }

    private static void minuteCalls() {
        promise = 12;
        for (int g : new int[] {LOW, -1, 5, 6, HIGH}) refused(RefusedTest::rich, "off " + g, y -> y.off(g));
        refused(RefusedTest::rich, "off, it is through", -2, y -> y.off(0));
        refused(RefusedTest::rich, "off, it is in a room", -2, y -> y.off(1));
        refused(RefusedTest::rich, "off, it has not come", -3, y -> y.off(3));
        refused(RefusedTest::rich, "off, the room is not free", -4, y -> y.off(2));
        promise = 13;
        for (int g : new int[] {LOW, -1, 0, 2, 3, 5, HIGH}) refused(RefusedTest::rich, "over " + g, y -> y.over(g, 1));
        for (int n : new int[] {LOW, -1, 0, 31, 32, HIGH}) refused(RefusedTest::rich, "over by " + n, y -> y.over(4, n));
        promise = 14;
        for (int n : new int[] {LOW, -1, 0, 61, 62, HIGH}) refused(RefusedTest::rich, "stand " + n, y -> y.stand(n));
        promise = 16;
        for (int n : new int[] {LOW, -1, 91, 92, HIGH}) refused(RefusedTest::rich, "minutes " + n, y -> y.minutes(n));
        promise = 18;
        refused(RefusedTest::noUndo, "undo", NoTwoInOneRoom::undo);
        promise = 19;
        for (int n : new int[] {LOW, -1, 401, HIGH}) refused(RefusedTest::rich, "where in " + n, -2, y -> y.where(4, n));
        for (int n : new int[] {-1, 401}) refused(RefusedTest::rich, "where, n first", -2, y -> y.where(5, n));
        for (int g : new int[] {LOW, -1, 5, HIGH}) refused(RefusedTest::rich, "where " + g, -3, y -> y.where(g, 0));
    }

    private static NoTwoInOneRoom noUndo() {
        NoTwoInOneRoom y = rich();
        for (int k = 0; k < 7; k++) y.undo();
        due("all is undone", y.count(8), 0);
        return y;
    }

    /** Bits of GROUPS that no ORDER can have in the rich world: nobody, none such, THROUGH, in ROOMS. */
    private static final int[] NOT_THOSE = {0, LOW, LOW + 4, -1, 32, 36, 64, 1 << 30, HIGH, 1, 5, 2, 6, 16, 20, 31};

    private static void orderCalls() {
        for (int those : NOT_THOSE) {
            promise = 22;
            refused(RefusedTest::rich, "best " + those, y -> y.best(those));
            promise = 23;
            refused(RefusedTest::rich, "calm " + those, y -> y.calm(those));
            promise = 24;
            refused(RefusedTest::rich, "many " + those, y -> y.many(those, 400));
            promise = 34;
            refused(RefusedTest::rich, "brief " + those, y -> y.brief(those));
            promise = 37;
            refused(RefusedTest::rich, "fits " + those, y -> y.fits(those));
            promise = 38;
            refused(RefusedTest::rich, "began " + those, y -> y.began(those));
            promise = 39;
            refused(RefusedTest::rich, "season " + those, y -> y.season(those, 1, 1));
        }
        promise = 24;
        for (int n : new int[] {LOW, -1, 0, 401, HIGH}) refused(RefusedTest::rich, "many in " + n, y -> y.many(12, n));
        promise = 39;
        for (int n : new int[] {LOW, -1, 0, 21, HIGH}) refused(RefusedTest::rich, "season of " + n, y -> y.season(12, 1, n));
    }

    private static void gapCalls() {
        promise = 25;
        for (int g : new int[] {LOW, -1, 5, HIGH}) {
            refused(RefusedTest::rich, "gap " + g, y -> y.gap(g, 0));
            refused(RefusedTest::rich, "gap behind " + g, y -> y.gap(0, g));
        }
        for (int g = 0; g < 5; g++) {
            int one = g;
            refused(RefusedTest::rich, "gap, like ones", y -> y.gap(one, one));
        }
        refused(RefusedTest::rich, "gap, another way", -2, y -> y.gap(0, 3));
        refused(RefusedTest::rich, "gap, another way", -2, y -> y.gap(3, 0));
        promise = 26;
        for (int those : new int[] {0, LOW, -1, 32, 33, 40, HIGH}) refused(RefusedTest::rich, "smooth " + those, y -> y.smooth(those));
        for (int those : new int[] {9, 12, 31}) refused(RefusedTest::rich, "smooth " + those, -2, y -> y.smooth(those));
        promise = 27;
        for (int g : new int[] {LOW, -1, 5, HIGH}) refused(RefusedTest::rich, "every " + g, y -> y.every(g));
        promise = 28;
        for (int those : new int[] {LOW, -1, 32, 33, HIGH}) refused(RefusedTest::rich, "least " + those, y -> y.least(those));
    }

    private static void overCalls() {
        promise = 29;
        for (int g : new int[] {LOW, -1, 0, 2, 3, 5, HIGH}) refused(RefusedTest::rich, "late " + g, y -> y.late(g, 1));
        for (int n : new int[] {LOW, -1, 0, 31, HIGH}) refused(RefusedTest::rich, "late by " + n, y -> y.late(4, n));
        promise = 30;
        for (int g : new int[] {LOW, -1, 0, 2, 3, 5, HIGH}) refused(RefusedTest::rich, "slack " + g, y -> y.slack(g));
        promise = 31;
        for (int g : new int[] {LOW, -1, 5, HIGH}) refused(RefusedTest::rich, "dies " + g, y -> y.dies(g, 9, 9));
        for (int n : new int[] {LOW, -1, 0, 61, HIGH}) {
            refused(RefusedTest::rich, "dies each " + n, y -> y.dies(0, n, 9));
            refused(RefusedTest::rich, "dies late by " + n, y -> y.dies(0, 9, n));
        }
        refused(RefusedTest::rich, "dies, less than every()", -2, y -> y.dies(4, 8, 9));
    }

    private static void joiningCalls() {
        promise = 32;
        for (int g : new int[] {LOW, -1, 5, HIGH}) {
            refused(RefusedTest::rich, "loss " + g, y -> y.loss(g, 0));
            refused(RefusedTest::rich, "loss with " + g, y -> y.loss(0, g));
        }
        for (int g = 0; g < 5; g++) {
            int one = g;
            refused(RefusedTest::rich, "loss, like ones", y -> y.loss(one, one));
        }
        refused(RefusedTest::rich, "loss, they can't be", -2, y -> y.loss(0, 1));
        refused(RefusedTest::rich, "loss, they can't be", -2, y -> y.loss(3, 0));
    }

    private static void heardCalls() {
        promise = 35;
        for (int r : new int[] {LOW, -1, 4, HIGH}) refused(RefusedTest::rich, "heard in " + r, y -> y.heard(r, 1, 0));
        for (int n : new int[] {LOW, -1, 0, 301, HIGH}) refused(RefusedTest::rich, "heard in minute " + n, y -> y.heard(0, n, 0));
        for (int t : new int[] {LOW, -2, 5, HIGH}) refused(RefusedTest::rich, "heard tongue " + t, y -> y.heard(0, 1, t));
        refused(RefusedTest::full, "a 13th", y -> y.heard(0, 1, 0));
    }

    private static void keptCalls() {
        promise = 40;
        for (int i : new int[] {LOW, -1, 2, 3, HIGH}) refused(RefusedTest::rich, "keep " + i, 0, y -> y.keep(i) ? 1 : 0);
        promise = 41;
        for (int i : new int[] {LOW, -1, 2, HIGH}) refused(RefusedTest::rich, "again " + i, 0, y -> y.again(i) ? 1 : 0);
        refused(RefusedTest::rich, "nothing kept under 1", 0, y -> y.again(1) ? 1 : 0);
        refused(RefusedTest::oneCame, "groups came since", 0, y -> y.again(0) ? 1 : 0);
        refused(RefusedTest::oneCame, "groups came since", 0, y -> y.again(1) ? 1 : 0);
    }

    private static NoTwoInOneRoom oneCame() {
        NoTwoInOneRoom y = rich();
        y.keep(1);
        type(y, "0v1>1111");
        due("one comes", y.groups(), 1);
        y.off(5);
        y.minute();
        type(y, "m7;p3");
        return y;
    }

    private static void bareCalls() {
        promise = 1;
        for (Supplier<NoTwoInOneRoom> world : List.<Supplier<NoTwoInOneRoom>>of(NoTwoInOneRoom::new, RefusedTest::bare)) {
            for (int g : new int[] {-1, 0, 1}) {
                refused(world, "stay", y -> y.stay(g, 0));
                refused(world, "leave", y -> y.leave(g, 0));
                refused(world, "off", y -> y.off(g));
                refused(world, "over", y -> y.over(g, 1));
                refused(world, "where", -3, y -> y.where(g, 0));
                refused(world, "gap", y -> y.gap(g, 1 - g));
                refused(world, "every", y -> y.every(g));
                refused(world, "late", y -> y.late(g, 1));
                refused(world, "slack", y -> y.slack(g));
                refused(world, "dies", y -> y.dies(g, 1, 1));
                refused(world, "loss", y -> y.loss(g, 1 - g));
                refused(world, "group", THROWS, y -> group(g, 0));
                refused(world, "best", y -> y.best(g));
                refused(world, "calm", y -> y.calm(g));
                refused(world, "many", y -> y.many(g, 1));
                refused(world, "smooth", y -> y.smooth(g));
                refused(world, "brief", y -> y.brief(g));
                refused(world, "fits", y -> y.fits(g));
                refused(world, "began", y -> y.began(g));
                refused(world, "season", y -> y.season(g, 1, 1));
            }
            refused(world, "least", y -> y.least(1));
            refusedText(world, "a", -1, NoTwoInOneRoom::order);
        }
        refused(NoTwoInOneRoom::new, "undo", NoTwoInOneRoom::undo);
        refused(NoTwoInOneRoom::new, "end", 0, y -> y.end(1) ? 1 : 0);
        refused(NoTwoInOneRoom::new, "heard", y -> y.heard(0, 1, 0));
        refused(NoTwoInOneRoom::new, "room", THROWS, y -> room(0, 0));
        refused(NoTwoInOneRoom::new, "row", THROWS, y -> row(0));
        refused(NoTwoInOneRoom::new, "again", 0, y -> y.again(0) ? 1 : 0);
        for (int kind = -1; kind < 5; kind++) {
            int k = kind;
            refused(NoTwoInOneRoom::new, "sheet", y -> y.sheet(0, k, -1, 1, 1));
        }
        refusedText(NoTwoInOneRoom::new, "0v1>", -1, NoTwoInOneRoom::groups);
        refusedText(NoTwoInOneRoom::new, "0v1>1", -1, NoTwoInOneRoom::groups);
    }

    private static void stuckCalls() {
        promise = 22;
        refused(RefusedTest::stuck, "best", -2, y -> y.best(4));
        promise = 23;
        refused(RefusedTest::stuck, "calm", -2, y -> y.calm(4));
        promise = 34;
        refused(RefusedTest::stuck, "brief", -2, y -> y.brief(4));
        promise = 29;
        refused(RefusedTest::stuck, "late", -2, y -> y.late(0, 1));
        refused(RefusedTest::stuck, "late", -2, y -> y.late(1, 30));
        promise = 30;
        refused(RefusedTest::stuck, "slack", -2, y -> y.slack(0));
        refused(RefusedTest::stuck, "slack", -2, y -> y.slack(1));
        promise = 12;
        refused(RefusedTest::stuck, "off", -4, y -> y.off(2));
    }

    private static void fullCalls() {
        promise = 2;
        for (int signs = 77; signs <= 80; signs++) {
            int n = signs;
            refused(() -> fullBut(n), "sign behind " + n, y -> y.sign(0x61626364));
        }
        promise = 3;
        refused(RefusedTest::full, "end 81", 0, y -> y.end(81) ? 1 : 0);
        promise = 4;
        refusedText(RefusedTest::full, times("r", 80), -7, NoTwoInOneRoom::palace);
        promise = 5;
        refusedText(RefusedTest::full, "0v1>111111", -1, NoTwoInOneRoom::groups);
        refusedText(RefusedTest::full, ";", -1, NoTwoInOneRoom::groups);
        promise = 7;
        refused(RefusedTest::full, "group 6", THROWS, y -> group(6, 0));
        promise = 10;
        refused(RefusedTest::full, "leave 64", y -> y.leave(5, 64));
        promise = 21;
        refusedText(RefusedTest::full, "abcdefg", -7, NoTwoInOneRoom::order);
        refusedText(RefusedTest::full, "abcdefa", -7, NoTwoInOneRoom::order);
        promise = 22;
        refused(RefusedTest::full, "best 64", y -> y.best(64));
        refused(RefusedTest::full, "best 127", y -> y.best(127));
    }

    private static NoTwoInOneRoom fullBut(int signs) {
        NoTwoInOneRoom y = full();
        y.end(signs);
        return y;
    }

    // ---- questions

    private static void question(Supplier<NoTwoInOneRoom> world, String call, int want, ToIntFunction<NoTwoInOneRoom> asking) {
        x = world.get();
        due(call, asking.applyAsInt(x), want);
        alike(call, x, world.get(), false);
    }

    /** No question's answer or ROW hangs on what was asked ahead of it. */
    private static void oneBehindAnother() {
        promise = 2;
        List<ToIntFunction<NoTwoInOneRoom>> all = List.of(
            y -> y.where(1, 3), y -> y.stuck(), y -> y.best(12), y -> y.calm(12), y -> y.calm(4), y -> y.many(12, 82),
            y -> y.gap(1, 4), y -> y.smooth(19), y -> y.every(1), y -> y.least(31), y -> y.late(4, 9), y -> y.slack(1),
            y -> y.dies(0, 4, 9), y -> y.loss(0, 4), y -> y.pairs(), y -> y.brief(12), y -> y.brief(4), y -> y.fits(12),
            y -> y.fits(8), y -> y.began(12), y -> y.season(12, 7, 5), y -> ordered(y, "c"), y -> ordered(y, "dc"), y -> y.best(32));
        for (Supplier<NoTwoInOneRoom> world : List.<Supplier<NoTwoInOneRoom>>of(RefusedTest::rich, RefusedTest::stuck)) {
            for (int first = 0; first < all.size(); first++) {
                for (int second = 0; second < all.size(); second++) {
                    NoTwoInOneRoom twin = world.get();
                    x = world.get();
                    all.get(first).applyAsInt(x);
                    // the ROW of one that is refused is that of the call ahead of it
                    x.least(1);
                    twin.least(1);
                    due(second + " behind " + first, all.get(second).applyAsInt(x), all.get(second).applyAsInt(twin));
                    due("row of " + second + " behind " + first, told(x).equals(told(twin)), true);
                }
            }
        }
    }

    private static int ordered(NoTwoInOneRoom y, String order) {
        type(y, order);
        return y.order();
    }

    private static List<Integer> told(NoTwoInOneRoom y) {
        List<Integer> row = new ArrayList<>();
        for (int i = 0; i < y.count(9); i++) row.add(y.row(i));
        return row;
    }

    private static void questions() {
        Supplier<NoTwoInOneRoom> world = RefusedTest::rich;
        promise = 2;
        question(world, "group", 9, y -> y.group(0, 4));
        question(world, "room", 2, y -> y.room(3, 1));
        question(world, "stay", 3, y -> y.stay(0, 1));
        question(world, "where", 9, y -> y.where(4, 400));
        question(world, "stuck", 0, y -> y.stuck());
        // c sets off in 11 MINUTES, d in 77: then its 5
        question(world, "best", 82, y -> y.best(12));
        question(world, "calm", 0, y -> y.calm(12));
        question(world, "many", 1, y -> y.many(12, 82));
        question(world, "gap", 3, y -> y.gap(0, 1));
        question(world, "smooth", 19, y -> y.smooth(19));
        question(world, "every", 9, y -> y.every(1));
        question(world, "least", 16, y -> y.least(31));
        question(world, "late", 30, y -> y.late(4, 30));
        // b has 7 LEFT in the last ROOM, where e is in 14
        question(world, "slack", 7, y -> y.slack(1));
        question(world, "dies", 0, y -> y.dies(0, 9, 3));
        question(world, "loss", 86, y -> y.loss(0, 4));
        question(world, "pairs", 1, y -> y.pairs());
        question(world, "brief", 80, y -> y.brief(12));
        question(world, "fits", 2, y -> y.fits(12));
        question(world, "began", 12, y -> y.began(12));
        question(world, "season", 5, y -> y.season(12, 7, 5));
        question(world, "count", 5, y -> y.count(1));
        x = rich();
        NoTwoInOneRoom twin = rich();
        type(x, "c");
        due("order", x.order() > 0, true);
        twin.end(0);
        alike("order", x, twin, false);
    }
}
