import java.util.ArrayList;
import java.util.EnumSet;
import java.util.List;
import java.util.Set;
import java.util.function.ToIntFunction;

/** Each call that is not refused changes what its promise says, and nothing else; once it is undone all is as ahead of it. */
public final class DeedsTest extends Asking {
    private enum Part { TEXT, ROW, HEARD, UNDO, KEPT_0, KEPT_1, STATE, PALACE, GROUPS, LEFT_OUT, STAYS, RULE }

    private static final Set<Part> NOTHING = EnumSet.noneOf(Part.class);
    private static final Set<Part> JUST_TEXT = EnumSet.of(Part.TEXT);
    private static final Set<Part> JUST_ROW = EnumSet.of(Part.ROW);
    private static final Set<Part> TEXT_AND_ROW = EnumSet.of(Part.TEXT, Part.ROW);

    public static void main(String[] args) {
        texts();
        palace();
        acts();
        minutesToCome();
        gaps();
        runningOver();
        walls();
        kept();
        finish("each call changes what is told of it alone");
    }

    /** GROUP 0 is THROUGH, 1 and 4 are in ROOMS, 2 and 3 are OUTSIDE, 3 can set off; THE TEXT could be a rule. */
    private static NoTwoInOneRoom world() {
        NoTwoInOneRoom y = made("rcrc", "0v9>1213;0w5>1129;2v8>2211;9x20<1111;0v7>9112");
        type(y, "s+c");
        y.rule();
        y.leave(2, 4);
        y.off(0);
        y.keep(0);
        y.heard(0, 2, 0);
        y.heard(2, 3, NoTwoInOneRoom.NONE);
        y.minutes(12);
        y.off(1);
        y.minutes(7);
        y.keep(1);
        y.off(4);
        y.stand(3);
        y.smooth(19);
        type(y, "z*2");
        return y;
    }

    // ---- what can be seen of each part

    private static List<Integer> look(NoTwoInOneRoom y, Part part) {
        List<Integer> seen = new ArrayList<>();
        switch (part) {
            case TEXT: lookAtText(y, seen); break;
            case ROW: for (int i = 0; i < y.count(9); i++) seen.add(y.row(i)); break;
            case HEARD: seen.add(y.count(7)); seen.add(y.heard(0, 1, 0)); seen.add(y.forget()); break;
            case UNDO: lookBack(y, seen); break;
            case KEPT_0: seen.add(y.again(0) ? 1 : 0); lookAtState(y, seen); break;
            case KEPT_1: seen.add(y.again(1) ? 1 : 0); lookAtState(y, seen); break;
            case STATE: lookAtState(y, seen); break;
            case PALACE: for (int r = 0; r < y.count(0); r++) seen.add(y.room(r, 0)); break;
            case GROUPS: lookAtGroups(y, seen); break;
            case LEFT_OUT: for (int g = 0; g < y.count(1); g++) seen.add(y.group(g, 8)); break;
            case STAYS: for (int g = 0; g < y.count(1); g++) for (int r = 0; r < y.count(0); r++) seen.add(y.stay(g, r)); break;
            default: lookAtRule(y, seen);
        }
        return seen;
    }

    private static void lookAtText(NoTwoInOneRoom y, List<Integer> seen) {
        seen.add(y.count(10));
        seen.add(y.rule());
        seen.add(y.stay(0, 0));
    }

    private static void lookBack(NoTwoInOneRoom y, List<Integer> seen) {
        seen.add(y.count(8));
        for (int k = 0; k < 13; k++) {
            seen.add(y.undo());
            lookAtState(y, seen);
        }
    }

    private static void lookAtState(NoTwoInOneRoom y, List<Integer> seen) {
        for (int what = 2; what < 7; what++) seen.add(y.count(what));
        for (int g = 0; g < y.count(1); g++) for (int what = 4; what < 8; what++) seen.add(y.group(g, what));
    }

    private static void lookAtGroups(NoTwoInOneRoom y, List<Integer> seen) {
        seen.add(y.count(1));
        for (int g = 0; g < y.count(1); g++) for (int what = 0; what < 4; what++) seen.add(y.group(g, what));
    }

    private static void lookAtRule(NoTwoInOneRoom y, List<Integer> seen) {
        type(y, "c");
        y.palace();
        type(y, "0v7>3");
        y.groups();
        seen.add(y.stay(0, 0));
    }

    // ---- what is due

    private static void changes(String call, Set<Part> parts, ToIntFunction<NoTwoInOneRoom> deed) {
        due(call + " is not refused", deed.applyAsInt(world()) >= 0, true);
        for (Part part : Part.values()) {
            NoTwoInOneRoom done = world();
            deed.applyAsInt(done);
            due(call + " leaves " + part, look(done, part).equals(look(world(), part)), !parts.contains(part));
        }
    }

    /** A deed that can be undone: then only what it told and read is not as it was. */
    private static void act(String call, Set<Part> besides, ToIntFunction<NoTwoInOneRoom> deed) {
        Set<Part> parts = EnumSet.of(Part.STATE, Part.UNDO);
        parts.addAll(besides);
        changes(call, parts, deed);
        for (Part part : Part.values()) {
            NoTwoInOneRoom undone = world();
            int could = undone.count(8);
            deed.applyAsInt(undone);
            due(call + " is one to undo", undone.undo(), could);
            due(call + " undone leaves " + part, look(undone, part).equals(look(world(), part)), !besides.contains(part));
        }
    }

    private static int told(NoTwoInOneRoom y, String signs, ToIntFunction<NoTwoInOneRoom> reading) {
        type(y, signs);
        return reading.applyAsInt(y);
    }

    // ---- the calls

    private static void texts() {
        promise = 2;
        changes("sign", JUST_TEXT, y -> y.sign(0x2b2b2b2b));
        promise = 3;
        changes("end", JUST_TEXT, y -> y.end(1) ? 1 : -1);
        changes("end where it ends", NOTHING, y -> y.end(3) ? 1 : -1);
        promise = 4;
        changes("palace", EnumSet.complementOf(EnumSet.of(Part.ROW, Part.RULE)), y -> told(y, "cc", NoTwoInOneRoom::palace));
        promise = 5;
        Set<Part> coming = EnumSet.complementOf(EnumSet.of(Part.ROW, Part.RULE, Part.HEARD, Part.PALACE));
        changes("groups", coming, y -> told(y, "7y3<5432", NoTwoInOneRoom::groups));
        changes("groups of none", JUST_TEXT, y -> told(y, "", NoTwoInOneRoom::groups));
        promise = 6;
        Set<Part> ruling = EnumSet.of(Part.TEXT, Part.RULE, Part.STAYS);
        changes("rule", ruling, y -> told(y, "s*2+3", NoTwoInOneRoom::rule));
        changes("rule of none", ruling, y -> told(y, "", NoTwoInOneRoom::rule));
        changes("the same rule", JUST_TEXT, y -> told(y, "s+c", NoTwoInOneRoom::rule));
    }

    private static void palace() {
        promise = 7;
        for (int what : new int[] {0, 1, 2, 3, 4, 5, 6, 8}) changes("group " + what, NOTHING, y -> y.group(1, what));
        changes("group 7", NOTHING, y -> y.group(0, 7));
        promise = 8;
        for (int what : new int[] {0, 1, 2}) changes("room " + what, NOTHING, y -> y.room(3, what));
        promise = 9;
        changes("stay", NOTHING, y -> y.stay(0, 1));
        promise = 10;
        Set<Part> leaving = EnumSet.of(Part.LEFT_OUT, Part.STAYS);
        changes("leave", leaving, y -> y.leave(2, 3));
        changes("leave for one in a ROOM", leaving, y -> y.leave(4, 15));
        changes("leave those that were", NOTHING, y -> y.leave(2, 4));
        promise = 11;
        changes("sheet", EnumSet.of(Part.STAYS), y -> y.sheet(3, 2, 5, 9, -2));
        changes("sheet of one in a ROOM", EnumSet.of(Part.STAYS), y -> y.sheet(0, 0, 5, 1, 0));
        changes("sheet missing", EnumSet.of(Part.STAYS), y -> y.sheet(0, 3, 0, 0, 0) + 3);
    }

    private static void acts() {
        promise = 12;
        act("off", NOTHING, y -> y.off(3));
        promise = 13;
        act("over", NOTHING, y -> y.over(4, 5));
        promise = 14;
        act("stand", NOTHING, y -> y.stand(60));
        promise = 15;
        act("minute", JUST_ROW, y -> y.minute());
        promise = 16;
        act("minutes", JUST_ROW, y -> y.minutes(9));
        changes("minutes of none", JUST_ROW, y -> y.minutes(0));
        promise = 17;
        act("day", TEXT_AND_ROW, y -> told(y, "od;m9;ve1;p3", NoTwoInOneRoom::day));
        act("day of which one was done", TEXT_AND_ROW, y -> told(y, "p9;oa;m9", NoTwoInOneRoom::day));
        changes("day of none", TEXT_AND_ROW, y -> told(y, "", NoTwoInOneRoom::day));
        changes("day of which none was done", TEXT_AND_ROW, y -> told(y, "oa;m9", NoTwoInOneRoom::day));
        promise = 18;
        changes("undo", EnumSet.of(Part.STATE, Part.UNDO), y -> y.undo());
    }

    private static void minutesToCome() {
        promise = 19;
        changes("where", JUST_ROW, y -> y.where(4, 30));
        promise = 20;
        changes("stuck", JUST_ROW, y -> y.stuck());
        promise = 21;
        changes("order", TEXT_AND_ROW, y -> told(y, "dc", NoTwoInOneRoom::order));
        promise = 22;
        changes("best", JUST_ROW, y -> y.best(12));
        promise = 23;
        changes("calm", JUST_ROW, y -> y.calm(12));
        promise = 24;
        changes("many", JUST_ROW, y -> y.many(12, 50));
    }

    private static void gaps() {
        promise = 25;
        changes("gap", JUST_ROW, y -> y.gap(2, 4));
        promise = 26;
        changes("smooth", JUST_ROW, y -> y.smooth(6));
        promise = 27;
        changes("every", JUST_ROW, y -> y.every(4));
        promise = 28;
        changes("least", JUST_ROW, y -> y.least(31));
    }

    private static void runningOver() {
        promise = 29;
        changes("late", JUST_ROW, y -> y.late(4, 3));
        promise = 30;
        changes("slack", NOTHING, y -> y.slack(4));
        promise = 31;
        changes("dies", JUST_ROW, y -> y.dies(0, 9, 12));
        promise = 32;
        changes("loss", NOTHING, y -> y.loss(0, 4));
        promise = 33;
        changes("pairs", JUST_ROW, y -> y.pairs());
        promise = 34;
        changes("brief", JUST_ROW, y -> y.brief(12));
    }

    private static void walls() {
        promise = 35;
        changes("heard", EnumSet.of(Part.HEARD), y -> y.heard(3, 4, 1));
        promise = 36;
        changes("forget", EnumSet.of(Part.HEARD), y -> y.forget());
        promise = 37;
        changes("fits", JUST_ROW, y -> y.fits(12));
        promise = 38;
        changes("began", JUST_ROW, y -> y.began(12));
        promise = 39;
        changes("season", JUST_ROW, y -> y.season(12, 5, 20));
    }

    private static void kept() {
        promise = 40;
        changes("keep 0", EnumSet.of(Part.KEPT_0), y -> y.keep(0) ? 1 : -1);
        changes("keep 1", EnumSet.of(Part.KEPT_1), y -> y.keep(1) ? 1 : -1);
        promise = 41;
        changes("again 0", EnumSet.of(Part.STATE, Part.UNDO), y -> y.again(0) ? 1 : -1);
        changes("again 1", EnumSet.of(Part.STATE, Part.UNDO), y -> y.again(1) ? 1 : -1);
        promise = 42;
        for (int what = 0; what <= 10; what++) {
            int w = what;
            changes("count " + what, NOTHING, y -> y.count(w));
        }
        promise = 43;
        for (int i = 0; i < 6; i++) {
            int k = i;
            changes("row " + i, NOTHING, y -> y.row(k));
        }
    }
}
