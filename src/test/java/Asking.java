import java.util.NoSuchElementException;

/** How tests ask: texts are typed sign by sign, answers are compared with those that are due. */
class Asking {
    static final int THROWS = Integer.MIN_VALUE + 7;
    static int wrong = 0;
    static int promise = 0;
    static NoTwoInOneRoom x;

    static void finish(String fine) {
        System.out.println(wrong == 0 ? fine : wrong + " answers break a promise");
        if (wrong != 0) System.exit(1);
    }

    static void due(String call, int got, int want) {
        if (got != want) {
            wrong++;
            System.out.println("promise " + promise + ": " + call + " answered " + got + ", due is " + want);
        }
    }

    static void due(String call, boolean got, boolean want) {
        due(call, got ? 1 : 0, want ? 1 : 0);
    }

    static void type(NoTwoInOneRoom y, String signs) {
        y.end(0);
        for (int p = 0; p < signs.length(); p += 4) {
            int v = 0;
            for (int k = 0; k < 4; k++) v = v << 8 | (p + k < signs.length() ? signs.charAt(p + k) : 0);
            y.sign(v);
        }
        due("end of " + signs, y.end(signs.length()), true);
    }

    static void text(String signs) {
        type(x, signs);
    }

    static void fresh(String palace, String groups) {
        x = made(palace, groups);
    }

    static NoTwoInOneRoom made(String palace, String groups) {
        NoTwoInOneRoom y = new NoTwoInOneRoom();
        type(y, palace);
        due("palace " + palace, y.palace(), palace.length());
        type(y, groups);
        due("groups " + groups, y.groups(), groups.isEmpty() ? 0 : groups.split(";").length);
        return y;
    }

    static void duePalace(String signs, int want) {
        text(signs);
        due("palace " + signs, x.palace(), want);
        due("text is emptied", x.count(10), 0);
    }

    static void dueGroups(String signs, int want) {
        text(signs);
        due("groups " + signs, x.groups(), want);
        due("text is emptied", x.count(10), 0);
    }

    static void dueRule(String signs, int want) {
        text(signs);
        due("rule " + signs, x.rule(), want);
        due("text is emptied", x.count(10), 0);
    }

    static void dueDay(String signs, int want, int... row) {
        text(signs);
        due("day " + signs, x.day(), want);
        due("text is emptied", x.count(10), 0);
        if (row.length > 0) dueRow(row);
    }

    static void dueOrder(String signs, int want, int... row) {
        text(signs);
        due("order " + signs, x.order(), want);
        due("text is emptied", x.count(10), 0);
        if (row.length > 0) dueRow(row);
    }

    static void dueRow(int... numbers) {
        due("numbers of the row", x.count(9), numbers.length);
        for (int i = 0; i < numbers.length; i++) due("row " + i, row(i), numbers[i]);
        due("none behind the row", row(numbers.length), THROWS);
    }

    static int group(int g, int what) {
        try {
            return x.group(g, what);
        } catch (NoSuchElementException e) {
            return THROWS;
        }
    }

    static int room(int r, int what) {
        try {
            return x.room(r, what);
        } catch (NoSuchElementException e) {
            return THROWS;
        }
    }

    static int row(int i) {
        try {
            return x.row(i);
        } catch (NoSuchElementException e) {
            return THROWS;
        }
    }

    static String times(String s, int n) {
        StringBuilder b = new StringBuilder();
        for (int k = 0; k < n; k++) b.append(s);
        return b.toString();
    }
}
