import java.util.ArrayList;
import java.util.List;
import java.util.NoSuchElementException;
import java.util.Random;

/** Random runs of calls on the class and on the plain model; their answers, their ROWS and all that can be asked must be alike. */
public final class PlainModelTest {
    private static int wrong = 0;

    private final Random random;
    private final int run;
    private final NoTwoInOneRoom x = new NoTwoInOneRoom();
    private final PlainModel m = new PlainModel();
    private final List<String> calls = new ArrayList<>();
    private boolean failed = false;

    PlainModelTest(int run) {
        this.run = run;
        random = new Random(run * 7919L + 17);
    }

    public static void main(String[] args) {
        int runs = args.length > 0 ? Integer.parseInt(args[0]) : 600;
        int first = args.length > 1 ? Integer.parseInt(args[1]) : 0;
        for (int run = first; run < first + runs && wrong < 5; run++) {
            new PlainModelTest(run).go();
        }
        System.out.println(wrong == 0 ? "class and plain model are alike" : wrong + " runs are not alike");
        if (wrong != 0) System.exit(1);
    }

    private int some(int n) {
        return random.nextInt(n);
    }

    private void due(String call, int got, int want) {
        calls.add(call + " = " + want);
        if (got != want) {
            fail(call + " answered " + got + ", the model " + want);
        }
    }

    private void due(String call, boolean got, boolean want) {
        due(call, got ? 1 : 0, want ? 1 : 0);
    }

    private void fail(String why) {
        if (failed) return;
        failed = true;
        wrong++;
        System.out.println("run " + run + ": " + why);
        for (String c : calls) System.out.println("    " + c);
    }

    private void type(String text) {
        calls.add("text " + text);
        x.end(0);
        m.end(0);
        for (int p = 0; p < text.length(); p += 4) {
            int v = 0;
            for (int k = 0; k < 4; k++) v = v << 8 | (p + k < text.length() ? text.charAt(p + k) : some(256));
            due("sign", x.sign(v), m.sign(v));
        }
        due("end", x.end(text.length()), m.end(text.length()));
    }

    private String palaceText() {
        StringBuilder b = new StringBuilder();
        int n = 1 + some(6);
        int corridors = some(4);
        for (int k = 0; k < n; k++) b.append(some(8) < corridors ? 'c' : 'r');
        return b.toString();
    }

    private String lineText(int rooms, int late, int ways, int tongues) {
        StringBuilder b = new StringBuilder();
        int comes = some(late);
        if (comes < 10 && some(4) == 0) b.append('0');
        b.append(comes).append((char) ('v' + some(tongues)));
        int size = 1 + some(some(3) == 0 ? 40 : 20);
        if (size < 10 && some(4) == 0) b.append('0');
        b.append(size).append(some(10) < ways ? '<' : '>');
        for (int r = 0; r < rooms; r++) b.append(some(3) == 0 ? 0 : some(10));
        return b.toString();
    }

    private String linesText(int n) {
        int late = new int[] {1, 8, 30, 100}[some(4)];
        int ways = new int[] {0, 0, 0, 1, 5, 10}[some(6)];
        int tongues = 1 + some(5);
        StringBuilder b = new StringBuilder();
        for (int k = 0; k < n; k++) {
            if (k > 0) b.append(';');
            b.append(lineText(Math.max(1, m.rooms()), late, ways, tongues));
        }
        return b.toString();
    }

    private String expression(int depth) {
        String e = sum(depth);
        return some(5) == 0 ? e + "<>=".charAt(some(3)) + sum(depth) : e;
    }

    private String sum(int depth) {
        String e = product(depth);
        for (int k = some(3); k > 0; k--) e += "+-".charAt(some(2)) + product(depth);
        return e;
    }

    private String product(int depth) {
        String e = thing(depth);
        if (some(2) == 0) e += "*/".charAt(some(2)) + thing(depth);
        return e;
    }

    private String thing(int depth) {
        int k = some(10);
        if (k == 0) return "-" + thing(depth);
        if (k <= 2 && depth < 4 + (some(20) == 0 ? 1 : 0)) return "(" + expression(depth + 1) + ")";
        if (k <= 4) return String.valueOf(some(new int[] {4, 30, 1000}[some(3)]));
        return String.valueOf("ssszrico".charAt(some(8)));
    }

    private String dayText() {
        StringBuilder b = new StringBuilder();
        for (int n = 1 + some(some(8) == 0 ? 30 : 8); n > 0; n--) {
            switch (some(6)) {
                case 0: case 1: b.append('m').append(some(some(4) == 0 ? 100 : 12)); break;
                case 2: case 3: b.append('o').append((char) ('a' + some(6))); break;
                case 4: b.append('v').append((char) ('a' + some(6))).append(1 + some(9)); break;
                default: b.append('p').append(1 + some(9));
            }
            if (n > 1) b.append(';');
        }
        return b.toString();
    }

    private String orderText() {
        StringBuilder b = new StringBuilder();
        List<Integer> left = PlainModel.list(some(5) == 0 ? some(64) : m.bits(m.s, 0));
        while (!left.isEmpty() && some(8) != 0) b.append((char) ('a' + left.remove(some(left.size()))));
        return b.toString();
    }

    /** A text is spoilt now and then: cut, a sign lost, a sign more, another sign. */
    private String spoil(String text) {
        if (some(4) != 0) return text;
        StringBuilder b = new StringBuilder(text);
        int p = b.length() == 0 ? 0 : some(b.length());
        switch (some(4)) {
            case 0: b.setLength(p); break;
            case 1: if (p < b.length()) b.deleteCharAt(p); break;
            case 2: b.insert(p, anySign()); break;
            default: if (p < b.length()) b.setCharAt(p, anySign());
        }
        return b.toString();
    }

    private char anySign() {
        return some(20) == 0 ? (char) some(256) : "0012345;<>=vwxyzabcdefmoprs()+-*/ic".charAt(some(35));
    }

    private String shortened(String text) {
        return text.length() > 80 ? text.substring(0, 80) : text;
    }

    private void lookRound() {
        due("count 9", x.count(9), m.count(9));
        for (int i = 0; i < m.row.size() && !failed; i++) due("row " + i, x.row(i), m.row.get(i));
        for (int w = -1; w < 12 && !failed; w++) due("count " + w, x.count(w), m.count(w));
        for (int g = 0; g < m.groups.size() && !failed; g++) {
            for (int w = 0; w < 9; w++) due("group " + g + " " + w, x.group(g, w), m.group(g, w));
        }
        for (int r = 0; r < m.rooms() && !failed; r++) {
            for (int w = 0; w < 3; w++) due("room " + r + " " + w, x.room(r, w), m.room(r, w));
            for (int g = 0; g < m.groups.size(); g++) due("stay " + g + " " + r, x.stay(g, r), m.stay(g, r));
        }
        if (!failed) calls.removeIf(c -> c.startsWith("group ") || c.startsWith("room ") || c.startsWith("stay "));
        if (!failed) calls.removeIf(c -> c.startsWith("sign") || c.startsWith("end") || c.startsWith("count "));
    }

    private int someGroup() {
        return some(12) == 0 ? some(9) - 1 : some(Math.max(1, m.groups.size()));
    }

    private int someRoom() {
        return some(12) == 0 ? some(9) - 1 : some(Math.max(1, m.rooms()));
    }

    private int somebody() {
        int all = m.bits(m.s, 0);
        if (some(12) == 0) return some(130) - 1;
        int those = all & some(64);
        return some(8) == 0 ? all : Integer.bitCount(those) > 4 && some(4) != 0 ? those & 0x2d : those;
    }

    private int someNumber(int most) {
        return some(10) == 0 ? some(most + 4) - 1 : 1 + some(most);
    }

    private void go() {
        if (some(20) != 0) {
            type(palaceText());
            due("palace", x.palace(), m.palace());
            type(linesText(1 + some(6)));
            due("groups", x.groups(), m.groups());
            if (some(2) == 0) fill();
        }
        for (int n = 0; n < 60 && !failed; n++) {
            if (some(5) == 0) act();
            else if (some(3) == 0) tellTexts();
            else ask();
            lookRound();
        }
    }

    /** Some set off, so that ROOMS are full. */
    private void fill() {
        for (int n = 0; n < 8 && !failed; n++) {
            int g = someGroup();
            due("off " + g, x.off(g), m.off(g));
            int k = some(4);
            due("minutes " + k, x.minutes(k), m.minutes(k));
        }
    }

    private void palaceAnew() {
        int n = m.groups.size();
        type(spoil(palaceText()));
        due("palace", x.palace(), m.palace());
        if (n > 0 && m.groups.isEmpty() && some(2) == 0) {
            type(linesText(n));
            due("groups", x.groups(), m.groups());
            due("again", x.again(0), m.again(0));
        }
    }

    private void tellTexts() {
        switch (some(14)) {
            case 0: if (some(6) == 0) palaceAnew(); break;
            case 1: case 2: type(shortened(spoil(linesText(1 + some(some(3) == 0 ? 7 : 2))))); due("groups", x.groups(), m.groups()); break;
            case 3: case 4: type(shortened(spoil(expression(0)))); due("rule", x.rule(), m.rule()); break;
            case 5: type(""); due("rule", x.rule(), m.rule()); break;
            case 6: case 7: case 8: type(shortened(spoil(dayText()))); due("day", x.day(), m.day()); break;
            case 9: case 10: case 11: type(spoil(orderText())); due("order", x.order(), m.order()); break;
            case 12: { int n = some(90) - 3; due("end " + n, x.end(n), m.end(n)); break; }
            default: { int v = random.nextInt(); due("sign " + v, x.sign(v), m.sign(v)); }
        }
    }

    private void act() {
        int g = someGroup();
        switch (some(13)) {
            case 0: case 1: case 2: due("off " + g, x.off(g), m.off(g)); break;
            case 3: { int n = someNumber(30); due("over " + g + " " + n, x.over(g, n), m.over(g, n)); break; }
            case 4: { int n = someNumber(60); due("stand " + n, x.stand(n), m.stand(n)); break; }
            case 5: case 6: due("minute", x.minute(), m.minute()); break;
            case 7: { int n = someNumber(some(4) == 0 ? 90 : 12); due("minutes " + n, x.minutes(n), m.minutes(n)); break; }
            case 8: case 9: due("undo", x.undo(), m.undo()); break;
            case 10: { int b = some(9) == 0 ? some(70) - 3 : some(1 << m.rooms()); due("leave " + g + " " + b, x.leave(g, b), m.leave(g, b)); break; }
            case 11: sheet(); break;
            default: { int i = some(4) - 1; if (some(2) == 0) due("keep " + i, x.keep(i), m.keep(i)); else due("again " + i, x.again(i), m.again(i)); }
        }
    }

    private void sheet() {
        int r = someRoom();
        int kind = some(8) == 0 ? some(6) - 1 : some(4);
        int n = some(9) - 1;
        int f = some(2) == 0 ? some(12) : random.nextInt();
        int step = some(2) == 0 ? some(7) - 3 : random.nextInt();
        due("sheet " + r + " " + kind + " " + n + " " + f + " " + step, x.sheet(r, kind, n, f, step), m.sheet(r, kind, n, f, step));
    }

    private void ask() {
        int g = someGroup();
        int h = someGroup();
        int b = somebody();
        if (some(60) == 0) fill();
        switch (some(22)) {
            case 0: { int n = some(9) == 0 ? some(406) - 2 : some(40); due("where " + g + " " + n, x.where(g, n), m.where(g, n)); break; }
            case 1: due("stuck", x.stuck(), m.stuck()); break;
            case 2: due("best " + b, x.best(b), m.best(b)); break;
            case 3: due("calm " + b, x.calm(b), m.calm(b)); break;
            case 4: { int n = some(4) == 0 ? some(405) - 1 : 10 + some(80); due("many " + b + " " + n, x.many(b, n), m.many(b, n)); break; }
            case 5: due("gap " + g + " " + h, x.gap(g, h), m.gap(g, h)); break;
            case 6: { int c = some(3) == 0 ? some(64) - 1 : oneWay(); due("smooth " + c, x.smooth(c), m.smooth(c)); break; }
            case 7: due("every " + g, x.every(g), m.every(g)); break;
            case 8: { int c = some(70) - 2; due("least " + c, x.least(c), m.least(c)); break; }
            case 9: case 10: { int n = someNumber(30); due("late " + g + " " + n, x.late(g, n), m.late(g, n)); break; }
            case 11: due("slack " + g, x.slack(g), m.slack(g)); break;
            case 12: { int n = someNumber(some(2) == 0 ? 12 : 60); int k = someNumber(60); due("dies " + g + " " + n + " " + k, x.dies(g, n, k), m.dies(g, n, k)); break; }
            case 13: due("loss " + g + " " + h, x.loss(g, h), m.loss(g, h)); break;
            case 14: due("pairs", x.pairs(), m.pairs()); break;
            case 15: { int c = Integer.bitCount(b) > 4 && some(10) != 0 ? b & 0x1b : b; due("brief " + c, x.brief(c), m.brief(c)); break; }
            case 16: case 17: hear(); break;
            case 18: if (some(3) == 0) due("forget", x.forget(), m.forget()); break;
            case 19: due("fits " + b, x.fits(b), m.fits(b)); break;
            case 20: due("began " + b, x.began(b), m.began(b)); break;
            default: { int seed = random.nextInt(); int n = someNumber(20); due("season " + b + " " + seed + " " + n, x.season(b, seed, n), m.season(b, seed, n)); }
        }
        wrongWhats();
    }

    /** Mostly what is so by some ORDER, so that not all that was heard fits none. */
    private void hear() {
        int r = someRoom();
        int n = some(9) == 0 ? some(304) - 1 : 1 + some(30);
        int t = some(9) == 0 ? some(8) - 2 : some(2) - 1;
        due("heard " + r + " " + n + " " + t, x.heard(r, n, t), m.heard(r, n, t));
    }

    private int oneWay() {
        int c = 0;
        for (int g = 0; g < m.groups.size(); g++) if (!m.groups.get(g).behind && some(4) != 0) c |= 1 << g;
        return c;
    }

    private void wrongWhats() {
        if (some(10) != 0) return;
        int a = some(3) == 0 ? random.nextInt() : some(9) - 1;
        int b = some(3) == 0 ? random.nextInt() : some(11) - 1;
        due("group? " + a + " " + b, thrown(0, a, b, true), thrown(0, a, b, false));
        due("room? " + a + " " + b, thrown(1, a, b, true), thrown(1, a, b, false));
        due("row? " + b, thrown(2, b, b, true), thrown(2, b, b, false));
    }

    private int thrown(int call, int a, int b, boolean real) {
        try {
            if (call == 0) return real ? x.group(a, b) : m.group(a, b);
            if (call == 1) return real ? x.room(a, b) : m.room(a, b);
            return real ? x.row(a) : m.row(a);
        } catch (NoSuchElementException e) {
            return -12345;
        }
    }
}
