import java.util.ArrayList;
import java.util.Arrays;
import java.util.List;
import java.util.NoSuchElementException;
import java.util.regex.Matcher;
import java.util.regex.Pattern;

/** The document's words once more, as slowly and plainly as can be: every order is gone through minute by minute. */
final class PlainModel {
    static final class Now implements Cloneable {
        int now;
        int[] at = new int[6];
        int[] left = new int[6];
        int[] waited = new int[6];
        int[] through = new int[6];

        Now() {
            Arrays.fill(at, -1);
            Arrays.fill(through, -1);
        }

        Now twin() {
            Now n = new Now();
            n.now = now;
            n.at = at.clone();
            n.left = left.clone();
            n.waited = waited.clone();
            n.through = through.clone();
            return n;
        }
    }

    static final class Group {
        int comes;
        int tongue;
        int size;
        boolean behind;
        int[] told = new int[6];
        int out;
    }

    String text = "";
    String palace = "";
    String rule = "";
    List<Group> groups = new ArrayList<>();
    Now s = new Now();
    List<Now> past = new ArrayList<>();
    Now[] kept = new Now[2];
    int[] keptCount = {-1, -1};
    List<int[]> heard = new ArrayList<>();
    List<Integer> row = new ArrayList<>();

    // ---- small words

    int rooms() {
        return palace.length();
    }

    boolean isGroup(int g) {
        return g >= 0 && g < groups.size();
    }

    boolean isRoom(int r) {
        return r >= 0 && r < rooms();
    }

    boolean corridor(int r) {
        return palace.charAt(r) == 'c';
    }

    boolean in(Now n, int g) {
        return n.at[g] >= 0 && n.at[g] < 6;
    }

    int bits(Now n, int kind) {
        int b = 0;
        for (int g = 0; g < groups.size(); g++) {
            int k = n.at[g] == -1 ? 0 : n.at[g] == 9 ? 2 : 1;
            if (k == kind) b |= 1 << g;
        }
        return b;
    }

    int[] way(int g) {
        int[] w = new int[rooms()];
        for (int k = 0; k < w.length; k++) w[k] = groups.get(g).behind ? w.length - 1 - k : k;
        return w;
    }

    void tell(int... numbers) {
        row = new ArrayList<>();
        for (int n : numbers) row.add(n);
    }

    int st(int g, int r) {
        Group q = groups.get(g);
        if ((q.out >> r & 1) == 1) return 0;
        int v = rule.isEmpty() ? q.told[r] : value(rule, g, r);
        return v < 0 ? 0 : v > 30 ? 30 : v;
    }

    // ---- THE RULE: the text is split at the operator that binds least

    int value(String e, int g, int r) {
        int at = split(e, "<>=");
        if (at >= 0) {
            int a = value(e.substring(0, at), g, r);
            int b = value(e.substring(at + 1), g, r);
            char c = e.charAt(at);
            return (c == '<' && a < b) || (c == '>' && a > b) || (c == '=' && a == b) ? 1 : 0;
        }
        at = split(e, "+-");
        if (at >= 0) {
            int a = value(e.substring(0, at), g, r);
            int b = value(e.substring(at + 1), g, r);
            return e.charAt(at) == '+' ? a + b : a - b;
        }
        at = split(e, "*/");
        if (at >= 0) {
            int a = value(e.substring(0, at), g, r);
            int b = value(e.substring(at + 1), g, r);
            return e.charAt(at) == '*' ? a * b : b == 0 ? 0 : a / b;
        }
        if (e.charAt(0) == '-') return -value(e.substring(1), g, r);
        if (e.charAt(0) == '(') return value(e.substring(1, e.length() - 1), g, r);
        Group q = groups.get(g);
        switch (e) {
            case "s": return q.told[r];
            case "z": return q.size;
            case "r": return r;
            case "i": return g;
            case "c": return corridor(r) ? 1 : 0;
            case "o": return q.behind ? 1 : 0;
            default: return Integer.parseInt(e);
        }
    }

    /** The last of these operators outside of ( ), that stands behind a thing. */
    int split(String e, String ops) {
        int depth = 0;
        int found = -1;
        for (int p = 0; p < e.length(); p++) {
            char c = e.charAt(p);
            if (c == '(') depth++;
            if (c == ')') depth--;
            if (depth == 0 && p > 0 && ops.indexOf(c) >= 0 && "+-*/<>=(".indexOf(e.charAt(p - 1)) < 0) found = p;
        }
        return found;
    }

    /** Sign by sign: what may stand next hangs on the sign ahead, the open ( and whether they have a comparison. */
    int ruleFault(String e, int most) {
        boolean thingWanted = true;
        int digits = 0;
        List<Boolean> compared = new ArrayList<>();
        compared.add(false);
        for (int p = 0; p < e.length(); p++) {
            if (p == most) return p;
            char c = e.charAt(p);
            if (thingWanted) {
                if (c == '-') continue;
                if (c == '(') {
                    if (compared.size() == 5) return p;
                    compared.add(false);
                } else if (c >= '0' && c <= '9') {
                    digits = 1;
                    thingWanted = false;
                } else if ("szrico".indexOf(c) >= 0) {
                    digits = 0;
                    thingWanted = false;
                } else {
                    return p;
                }
                continue;
            }
            if (c >= '0' && c <= '9' && digits > 0 && digits < 3) {
                digits++;
                continue;
            }
            digits = 0;
            if ("+-*/".indexOf(c) >= 0) {
                thingWanted = true;
            } else if ("<>=".indexOf(c) >= 0 && !compared.get(compared.size() - 1)) {
                compared.set(compared.size() - 1, true);
                thingWanted = true;
            } else if (c == ')' && compared.size() > 1) {
                compared.remove(compared.size() - 1);
            } else {
                return p;
            }
        }
        return thingWanted || compared.size() > 1 ? e.length() : -1;
    }

    /** The longest beginning that a text of that form could have. */
    static int fault(String form, String e, int most) {
        Pattern p = Pattern.compile(form, Pattern.DOTALL);
        String head = e.length() > most ? e.substring(0, most) : e;
        int viable = -1;
        for (int n = 0; n <= head.length(); n++) {
            Matcher m = p.matcher(head.substring(0, n));
            boolean whole = m.matches();
            if (!whole && !m.hitEnd()) break;
            viable = n;
        }
        if (viable < head.length()) return viable;
        if (e.length() > most) return most;
        return p.matcher(e).matches() ? -1 : e.length();
    }

    // ---- calls: the palace

    int sign(int v) {
        if (text.length() + 4 > 80) return -1;
        for (int k = 0; k < 4; k++) text += (char) (v >>> 24 - 8 * k & 255);
        return text.length();
    }

    boolean end(int n) {
        if (n < 0 || n > text.length()) return false;
        text = text.substring(0, n);
        return true;
    }

    String take() {
        String t = text;
        text = "";
        return t;
    }

    int palace() {
        String t = take();
        int f = fault("[rc]{1,6}", t, 80);
        if (f >= 0) return -1 - f;
        palace = t;
        groups.clear();
        s = new Now();
        heard.clear();
        past.clear();
        kept = new Now[2];
        return rooms();
    }

    int groups() {
        String t = take();
        if (t.isEmpty()) return 0;
        if (rooms() == 0 || groups.size() == 6) return -1;
        String line = "[0-9]{1,2}[v-z](0?[1-9]|[123][0-9]|40)[<>][0-9]{" + rooms() + "}";
        int f = fault(line + "(;" + line + "){0," + (5 - groups.size()) + "}", t, 76);
        // a seventh LINE: the form allows no ; ahead of it, but it is the first sign of the LINE that is told
        String all = line + "(;" + line + "){" + (5 - groups.size()) + "};.*";
        if (f >= 0 && f < 76 && f < t.length() && t.charAt(f) == ';' && Pattern.compile(all, Pattern.DOTALL).matcher(t).matches()) f++;
        // a SIZE of 0 alone
        if (f >= 2 && f < 76 && (f == t.length() || t.charAt(f) < '0' || t.charAt(f) > '9') && t.charAt(f - 1) == '0'
            && t.charAt(f - 2) >= 'v' && t.charAt(f - 2) <= 'z') f--;
        if (f >= 0) return -1 - f;
        int n = 0;
        for (String l : t.split(";")) {
            Matcher m = Pattern.compile("([0-9]+)(.)([0-9]+)(.)(.*)").matcher(l);
            if (!m.matches()) throw new IllegalStateException(l);
            Group g = new Group();
            g.comes = Integer.parseInt(m.group(1));
            g.tongue = m.group(2).charAt(0) - 'v';
            g.size = Integer.parseInt(m.group(3));
            g.behind = m.group(4).equals("<");
            for (int r = 0; r < rooms(); r++) g.told[r] = m.group(5).charAt(r) - '0';
            groups.add(g);
            n++;
        }
        past.clear();
        return n;
    }

    int rule() {
        String t = take();
        int f = t.isEmpty() ? -1 : ruleFault(t, 40);
        if (f >= 0) return -1 - f;
        rule = t;
        return 0;
    }

    int group(int g, int what) {
        if (!isGroup(g)) throw new NoSuchElementException();
        Group q = groups.get(g);
        int[] all = {q.comes, q.tongue, q.size, q.behind ? 1 : 0, s.at[g], s.left[g], s.waited[g], s.through[g], q.out};
        if (what < 0 || what >= all.length) throw new NoSuchElementException();
        return all[what];
    }

    int room(int r, int what) {
        if (!isRoom(r) || what < 0 || what > 2) throw new NoSuchElementException();
        if (what == 0) return corridor(r) ? 1 : 0;
        int b = 0;
        int sum = 0;
        for (int g = 0; g < groups.size(); g++) {
            if (s.at[g] == r) b |= 1 << g;
            sum += st(g, r);
        }
        return what == 1 ? b : sum;
    }

    int stay(int g, int r) {
        return isGroup(g) && isRoom(r) ? st(g, r) : -1;
    }

    int leave(int g, int b) {
        if (!isGroup(g) || b < 0 || b >> rooms() != 0) return -1;
        int was = groups.get(g).out;
        groups.get(g).out = b;
        return was;
    }

    int sheet(int r, int kind, int n, int f, int step) {
        if (kind < 0 || kind > 3 || n > 6 || !isRoom(r)) return -1;
        if (kind < 3 && n < 0) return -2;
        int sum = 0;
        int entry = f;
        for (int g = 0; g < groups.size(); g++) {
            int v = kind == 0 ? (byte) entry : kind == 1 ? (short) entry : entry;
            v = kind == 3 || g >= n ? 0 : v < 0 ? 0 : v > 9 ? 9 : v;
            groups.get(g).told[r] = v;
            sum += v;
            entry += step;
        }
        return kind == 3 ? -3 : sum;
    }

    // ---- calls: minutes

    boolean free(Now n, int r) {
        if (corridor(r)) return true;
        for (int g = 0; g < groups.size(); g++) if (n.at[g] == r) return false;
        return true;
    }

    int cant(Now n, int g) {
        if (n.at[g] != -1) return -2;
        if (n.now < groups.get(g).comes) return -3;
        return free(n, way(g)[0]) ? 0 : -4;
    }

    void setOff(Now n, int g) {
        n.at[g] = way(g)[0];
        n.left[g] = st(g, n.at[g]);
    }

    /** Who stepped on, who waited, who got through. */
    int[] pass(Now n) {
        int[] told = new int[3];
        for (int g = 0; g < groups.size(); g++) if (in(n, g) && n.left[g] > 0) n.left[g]--;
        boolean any = true;
        while (any) {
            any = false;
            for (int g = 0; g < groups.size() && !any; g++) {
                if (!in(n, g) || n.left[g] != 0) continue;
                int to = groups.get(g).behind ? n.at[g] - 1 : n.at[g] + 1;
                if (!isRoom(to)) {
                    n.at[g] = 9;
                    n.through[g] = n.now;
                    told[2] |= 1 << g;
                } else if (free(n, to)) {
                    n.at[g] = to;
                    n.left[g] = st(g, to);
                } else {
                    continue;
                }
                told[0] |= 1 << g;
                any = true;
            }
        }
        for (int g = 0; g < groups.size(); g++) {
            if (in(n, g) && n.left[g] == 0) {
                n.waited[g]++;
                told[1] |= 1 << g;
            }
        }
        n.now++;
        return told;
    }

    void save(Now n) {
        past.add(n);
        if (past.size() > 12) past.remove(0);
    }

    int off(int g) {
        if (!isGroup(g)) return -1;
        int c = cant(s, g);
        if (c != 0) return c;
        save(s.twin());
        setOff(s, g);
        return Integer.bitCount(bits(s, 1));
    }

    int over(int g, int n) {
        if (!isGroup(g) || !in(s, g) || n < 1 || n > 30) return -1;
        save(s.twin());
        s.left[g] = Math.min(99, s.left[g] + n);
        return s.left[g];
    }

    int stand(int n) {
        if (n < 1 || n > 60) return -1;
        save(s.twin());
        s.now += n;
        return s.now;
    }

    int minute() {
        save(s.twin());
        int[] t = pass(s);
        tell(t[0], t[1]);
        return Integer.bitCount(t[2]);
    }

    int minutes(int n) {
        if (n < 0 || n > 90) return -1;
        if (n > 0) save(s.twin());
        int gone = 0;
        int waited = 0;
        for (int k = 0; k < n; k++) {
            int[] t = pass(s);
            gone |= t[2];
            waited += Integer.bitCount(t[1]);
        }
        tell(gone, waited);
        return Integer.bitCount(gone);
    }

    int day() {
        String t = take();
        if (t.isEmpty()) {
            tell(0, 0);
            return 0;
        }
        String act = "(m[0-9]{1,2}|o[a-f]|v[a-f][1-9]|p[1-9])";
        int f = fault(act + "(;" + act + ")*", t, 60);
        if (f >= 0) return -1 - f;
        Now was = s.twin();
        List<Now> wasPast = new ArrayList<>(past);
        int done = 0;
        int failed = 0;
        for (String a : t.split(";")) {
            int answer;
            int g = a.charAt(1) - 'a';
            switch (a.charAt(0)) {
                case 'm': answer = minutes(Integer.parseInt(a.substring(1))); break;
                case 'o': answer = off(g); break;
                case 'v': answer = over(g, a.charAt(2) - '0'); break;
                default: answer = stand(a.charAt(1) - '0');
            }
            if (answer < 0) {
                failed = 1;
                break;
            }
            done++;
        }
        past = wasPast;
        if (done > 0) save(was);
        tell(failed, Integer.bitCount(bits(s, 2) & ~bits(was, 2)));
        return done;
    }

    int undo() {
        if (past.isEmpty()) return -1;
        s = past.remove(past.size() - 1);
        return past.size();
    }

    // ---- calls: minutes to come

    Now later(Now from, int n) {
        Now t = from.twin();
        for (int k = 0; k < n; k++) pass(t);
        return t;
    }

    int where(int g, int n) {
        if (n < 0 || n > 400) return -2;
        if (!isGroup(g)) return -3;
        Now t = later(s, n);
        tell(t.left[g], t.waited[g]);
        return t.at[g];
    }

    int stuck() {
        Now t = later(s, 400);
        int last = 0;
        for (int g = 0; g < groups.size(); g++) {
            if (in(s, g) && !in(t, g)) last = Math.max(last, t.through[g] - s.now + 1);
        }
        tell(last);
        return bits(t, 1);
    }

    /** The state when the DAY is over; through[] of those not through is -1. */
    Now dayBy(List<Integer> order) {
        Now t = s.twin();
        int next = 0;
        for (int k = 0; k < 400; k++) {
            while (next < order.size() && cant(t, order.get(next)) == 0) setOff(t, order.get(next++));
            pass(t);
            boolean all = true;
            for (int g : order) all &= t.at[g] == 9;
            if (all) break;
        }
        return t;
    }

    boolean good(Now t, List<Integer> order) {
        for (int g : order) if (t.at[g] != 9) return false;
        return true;
    }

    int waited(Now t, List<Integer> order) {
        int w = 0;
        for (int g : order) w += t.waited[g];
        return w;
    }

    int order() {
        String t = take();
        List<Integer> o = new ArrayList<>();
        if (t.isEmpty()) return -1;
        for (int p = 0; p < t.length(); p++) {
            int g = t.charAt(p) - 'a';
            if (!isGroup(g) || o.contains(g)) return -1 - p;
            o.add(g);
        }
        for (int g : o) if (s.at[g] != -1) return -100;
        Now end = dayBy(o);
        if (!good(end, o)) return -200;
        row = new ArrayList<>();
        for (int g : o) row.add(end.through[g] - s.now + 1);
        row.add(waited(end, o));
        return end.now - s.now;
    }

    static void permute(List<Integer> head, List<Integer> rest, List<List<Integer>> all) {
        if (rest.isEmpty()) all.add(new ArrayList<>(head));
        for (int k = 0; k < rest.size(); k++) {
            List<Integer> more = new ArrayList<>(head);
            List<Integer> less = new ArrayList<>(rest);
            more.add(less.remove(k));
            permute(more, less, all);
        }
    }

    static List<Integer> list(int those) {
        List<Integer> l = new ArrayList<>();
        for (int g = 0; g < 6; g++) if ((those >> g & 1) == 1) l.add(g);
        return l;
    }

    static List<List<Integer>> orders(int those) {
        List<List<Integer>> all = new ArrayList<>();
        permute(new ArrayList<>(), list(those), all);
        return all;
    }

    boolean ask(int those) {
        if (those <= 0 || those >> groups.size() != 0) return false;
        return (those & bits(s, 0)) == those;
    }

    static int compare(List<Integer> a, List<Integer> b) {
        for (int k = 0; k < a.size() && k < b.size(); k++) {
            if (!a.get(k).equals(b.get(k))) return Integer.compare(a.get(k), b.get(k));
        }
        return Integer.compare(a.size(), b.size());
    }

    /** The least of rows: first, second, the ORDER. */
    List<Integer> leastOf(int those, boolean waitFirst) {
        List<Integer> least = null;
        for (List<Integer> o : orders(those)) {
            Now t = dayBy(o);
            if (!good(t, o)) continue;
            List<Integer> r = new ArrayList<>();
            r.add(waitFirst ? waited(t, o) : t.now - s.now);
            r.add(waitFirst ? t.now - s.now : waited(t, o));
            r.addAll(o);
            if (least == null || compare(r, least) < 0) least = r;
        }
        return least;
    }

    int best(int those) {
        if (!ask(those)) return -1;
        List<Integer> l = leastOf(those, false);
        if (l == null) return -2;
        row = l.subList(2, l.size());
        return l.get(0);
    }

    int calm(int those) {
        if (!ask(those)) return -1;
        List<Integer> l = leastOf(those, true);
        if (l == null) return -2;
        row = l.subList(1, l.size());
        return l.get(0);
    }

    int many(int those, int n) {
        if (n < 1 || n > 400 || !ask(those)) return -1;
        int good = 0;
        int bad = 0;
        for (List<Integer> o : orders(those)) {
            Now t = dayBy(o);
            if (!good(t, o)) bad++;
            else if (t.now - s.now <= n) good++;
        }
        tell(bad);
        return good;
    }

    // ---- calls: gaps

    /** MINUTES from setting off to entering the k-th ROOM of its way. */
    int enters(int g, int k) {
        int sum = 0;
        for (int j = 0; j < k; j++) sum += st(g, way(g)[j]);
        return sum;
    }

    boolean clash(int a, int b, int gap, int k) {
        return gap + enters(b, k) < enters(a, k + 1);
    }

    int gap(int a, int b) {
        if (!isGroup(a) || !isGroup(b) || a == b) return -1;
        if (groups.get(a).behind != groups.get(b).behind) return -2;
        int gap = 0;
        for (boolean any = true; any; ) {
            any = false;
            for (int k = 0; k < rooms(); k++) any |= !corridor(way(a)[k]) && clash(a, b, gap, k);
            if (any) gap++;
        }
        int at = -1;
        for (int k = rooms() - 1; k >= 0; k--) {
            if (!corridor(way(a)[k]) && !clash(a, b, gap, k) && clash(a, b, gap - 1, k)) at = way(a)[k];
        }
        tell(at);
        return gap;
    }

    int smooth(int those) {
        if (those <= 0 || those >> groups.size() != 0) return -1;
        List<Integer> l = list(those);
        for (int g : l) if (groups.get(g).behind != groups.get(l.get(0)).behind) return -2;
        List<Integer> was = row;
        List<Integer> least = null;
        for (List<Integer> o : orders(those)) {
            List<Integer> r = new ArrayList<>(o);
            int start = 0;
            int last = 0;
            for (int k = 0; k < o.size(); k++) {
                if (k > 0) start += gap(o.get(k - 1), o.get(k));
                r.add(start);
                last = Math.max(last, start + enters(o.get(k), rooms()));
            }
            r.add(0, last);
            if (least == null || compare(r, least) < 0) least = r;
        }
        row = was;
        row = least.subList(1, least.size());
        return least.get(0);
    }

    int every(int g) {
        if (!isGroup(g)) return -1;
        int most = 0;
        int at = -1;
        for (int r = rooms() - 1; r >= 0; r--) {
            if (!corridor(r) && st(g, r) >= most) {
                most = st(g, r);
                at = r;
            }
        }
        int n = 0;
        for (int start = 0; most > 0 && start + enters(g, rooms()) <= 300; start += most) n++;
        tell(at, most == 0 ? -1 : n);
        return most;
    }

    int least(int those) {
        if (those < 0 || those >> groups.size() != 0) return -1;
        int most = 0;
        int[] inRoom = new int[6];
        for (int g : list(those)) {
            most = Math.max(most, enters(g, rooms()));
            for (int r = 0; r < rooms(); r++) inRoom[r] += st(g, r);
        }
        for (int r = 0; r < rooms(); r++) if (!corridor(r)) most = Math.max(most, inRoom[r]);
        int at = -1;
        for (int r = rooms() - 1; r >= 0; r--) if (!corridor(r) && inRoom[r] == most) at = r;
        int b = 0;
        for (int g : list(those)) if (enters(g, rooms()) == most) b |= 1 << g;
        tell(at, b);
        return most;
    }

    // ---- calls: running over

    Now ifOver(int g, int n) {
        Now t = s.twin();
        t.left[g] = Math.min(99, t.left[g] + n);
        return later(t, 400);
    }

    int late(int g, int n) {
        if (!isGroup(g) || !in(s, g) || n < 1 || n > 30) return -1;
        Now a = ifOver(g, 0);
        Now b = ifOver(g, n);
        if (bits(a, 1) != 0 || bits(b, 1) != 0) return -2;
        int lastA = 0;
        int lastB = 0;
        int who = 0;
        int sum = 0;
        for (int q = 0; q < groups.size(); q++) {
            if (!in(s, q)) continue;
            lastA = Math.max(lastA, a.through[q]);
            lastB = Math.max(lastB, b.through[q]);
            if (b.through[q] > a.through[q]) {
                who |= 1 << q;
                sum += b.through[q] - a.through[q];
            }
        }
        tell(who, sum);
        return lastB - lastA;
    }

    int slack(int g) {
        if (!isGroup(g) || !in(s, g)) return -1;
        Now a = ifOver(g, 0);
        if (bits(a, 1) != 0) return -2;
        int most = 0;
        for (int n = 1; n <= 30; n++) {
            Now b = ifOver(g, n);
            boolean ok = true;
            for (int q = 0; q < groups.size(); q++) {
                if (q != g && in(s, q)) ok &= b.through[q] != -1 && b.through[q] <= a.through[q];
            }
            if (ok) most = n;
        }
        return most;
    }

    int dies(int g, int n, int m) {
        if (!isGroup(g) || n < 1 || n > 60 || m < 1 || m > 60) return -1;
        List<Integer> was = row;
        int e = every(g);
        row = was;
        if (n < e) return -2;
        int d = m;
        int k = 0;
        int last = 0;
        for (; k < 20; k++) {
            d = d - n + e;
            if (d <= 0) break;
            last = d;
        }
        tell(last);
        return k;
    }

    // ---- calls: joining, leaving out

    int loss(int a, int b) {
        if (!isGroup(a) || !isGroup(b) || a == b) return -1;
        Group p = groups.get(a);
        Group q = groups.get(b);
        if (p.tongue != q.tongue || p.behind != q.behind || p.size + q.size > 40) return -2;
        int sum = 0;
        for (int r = 0; r < rooms(); r++) {
            if (st(a, r) < st(b, r)) sum += (st(b, r) - st(a, r)) * p.size;
            if (st(b, r) < st(a, r)) sum += (st(a, r) - st(b, r)) * q.size;
        }
        return sum;
    }

    /** Every row of mates there is, as numbers to base 7. */
    int pairs() {
        int n = groups.size();
        int all = 1;
        for (int g = 0; g < n; g++) all *= 7;
        List<Integer> least = null;
        for (int code = 0; code < all; code++) {
            int[] mate = new int[n];
            for (int g = 0, c = code; g < n; g++, c /= 7) mate[g] = c % 7 - 1;
            int pairs = 0;
            int loss = 0;
            boolean ok = true;
            for (int g = 0; g < n && ok; g++) {
                if (mate[g] == -1) continue;
                ok = mate[g] < n && mate[g] != g && mate[mate[g]] == g && loss(g, mate[g]) >= 0;
                if (ok && mate[g] > g) {
                    pairs++;
                    loss += loss(g, mate[g]);
                }
            }
            if (!ok) continue;
            List<Integer> r = new ArrayList<>();
            r.add(-pairs);
            r.add(loss);
            for (int m : mate) r.add(m);
            if (least == null || compare(r, least) < 0) least = r;
        }
        row = least.subList(1, least.size());
        return -least.get(0);
    }

    int brief(int those) {
        if (!ask(those)) return -1;
        List<Integer> l = leastOf(those, false);
        int soonest = l == null ? 1000 : l.get(0);
        int group = -1;
        int room = -1;
        for (int g = 0; g < groups.size(); g++) {
            for (int r = 0; r < rooms(); r++) {
                int was = groups.get(g).out;
                groups.get(g).out |= 1 << r;
                l = leastOf(those, false);
                groups.get(g).out = was;
                if (l != null && l.get(0) < soonest) {
                    soonest = l.get(0);
                    group = g;
                    room = r;
                }
            }
        }
        if (soonest == 1000) return -2;
        tell(group, room);
        return soonest;
    }

    // ---- calls: heard

    int heard(int r, int n, int tongue) {
        if (!isRoom(r) || n < 1 || n > 300 || tongue < -1 || tongue > 4 || heard.size() == 12) return -1;
        heard.add(new int[] {r, n, tongue});
        return heard.size();
    }

    int forget() {
        int n = heard.size();
        heard.clear();
        return n;
    }

    boolean suits(List<Integer> order) {
        Now t = s.twin();
        int next = 0;
        for (int k = 1; k <= 300; k++) {
            while (next < order.size() && cant(t, order.get(next)) == 0) setOff(t, order.get(next++));
            pass(t);
            for (int[] h : heard) {
                if (h[1] != k) continue;
                boolean anybody = false;
                boolean tongue = false;
                for (int g = 0; g < groups.size(); g++) {
                    if (t.at[g] != h[0]) continue;
                    anybody = true;
                    tongue |= groups.get(g).tongue == h[2];
                }
                if (h[2] == -1 ? anybody : !tongue) return false;
            }
        }
        return true;
    }

    int fits(int those) {
        if (!ask(those)) return -1;
        int n = 0;
        tell();
        for (List<Integer> o : orders(those)) {
            if (!suits(o)) continue;
            if (n == 0 || compare(o, row) < 0) row = o;
            n++;
        }
        return n;
    }

    int began(int those) {
        if (!ask(those)) return -1;
        int first = 0;
        int last = 0;
        for (List<Integer> o : orders(those)) {
            if (!suits(o)) continue;
            first |= 1 << o.get(0);
            last |= 1 << o.get(o.size() - 1);
        }
        tell(last);
        return first;
    }

    // ---- calls: seasons

    int season(int those, int seed, int n) {
        if (n < 1 || n > 20 || !ask(those)) return -1;
        long r = seed;
        int good = 0;
        int soonest = -1;
        int latest = -1;
        int day = -1;
        for (int d = 0; d < n; d++) {
            List<Integer> rest = list(those);
            List<Integer> o = new ArrayList<>();
            while (!rest.isEmpty()) {
                r = (r * 1103515245L + 12345L) & 0xffffffffL;
                o.add(rest.remove((int) (r / 65536 % rest.size())));
            }
            Now t = dayBy(o);
            if (!good(t, o)) continue;
            int m = t.now - s.now;
            good++;
            if (m > latest) latest = m;
            if (soonest == -1 || m < soonest) {
                soonest = m;
                day = d;
            }
        }
        tell(soonest, latest, day);
        return good;
    }

    // ---- calls: kept

    boolean keep(int i) {
        if (i < 0 || i > 1) return false;
        kept[i] = s.twin();
        keptCount[i] = groups.size();
        return true;
    }

    boolean again(int i) {
        if (i < 0 || i > 1 || kept[i] == null || keptCount[i] != groups.size()) return false;
        s = kept[i].twin();
        past.clear();
        return true;
    }

    int count(int what) {
        int w = 0;
        for (int g = 0; g < groups.size(); g++) w += s.waited[g];
        int[] all = {rooms(), groups.size(), s.now, bits(s, 0), bits(s, 1), bits(s, 2), w, heard.size(), past.size(),
            row.size(), text.length()};
        return what >= 0 && what < all.length ? all[what] : -1;
    }

    int row(int i) {
        if (i < 0 || i >= row.size()) throw new NoSuchElementException();
        return row.get(i);
    }
}
