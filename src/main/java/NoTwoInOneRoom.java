import java.util.NoSuchElementException;

/** Groups are led through the rooms of a palace, no two of them in one room. */
public final class NoTwoInOneRoom {
    public static final int NONE = -1;

    private static final int MOST = 6;
    private static final int OUTSIDE = -1;
    private static final int THROUGH = 9;
    private static final int LONGEST_DAY = 400;
    private static final int LONGEST_STAY = 30;
    private static final int MOST_LEFT = 99;
    private static final int MOST_SIZE = 40;
    private static final int MOST_SIGNS = 80;
    private static final int MOST_OF_DAY = 60;
    private static final int MOST_HEARD = 12;
    private static final int MOST_PAST = 12;
    private static final int MOST_KEPT = 2;
    private static final int MOST_LATE = 20;
    private static final int ALL_ORDERS = 720;
    private static final int LONGEST_ROW = 12;

    // Read instead of a sign: behind the text, and where it goes on beyond what its kind may have.
    private static final int END = -1;
    private static final int CUT = -2;

    private static final int NOT_SO = -2;

    private final Text text;
    private final House house;
    private final Lines lines;
    private final State state;
    private final State before;
    private final State foreseen;
    private final State otherwise;
    private final Past past;
    private final State[] kept;
    private final int[] keptGroups;
    private final Heard walls;
    private final Orders orders;
    private final Orders found;
    private final Trial trial;
    private final Joining joining;
    private final int[] numbers;
    private int told;

    public NoTwoInOneRoom() {
        text = new Text();
        house = new House();
        lines = new Lines(text, house);
        state = new State();
        before = new State();
        foreseen = new State();
        otherwise = new State();
        past = new Past();
        kept = new State[MOST_KEPT];
        keptGroups = new int[MOST_KEPT];
        for (int i = 0; i < MOST_KEPT; i++) {
            kept[i] = new State();
            keptGroups[i] = NONE;
        }
        walls = new Heard();
        orders = new Orders();
        found = new Orders();
        trial = new Trial(house, walls);
        joining = new Joining(house);
        numbers = new int[LONGEST_ROW];
        told = 0;
    }

    // ---- the palace

    public int sign(int v) {
        return text.add(v);
    }

    public boolean end(int n) {
        return text.cut(n);
    }

    public int palace() {
        int fault = faultOfPalace();
        if (fault == NONE) {
            buildPalace();
        }
        text.length = 0;
        return fault == NONE ? house.rooms : -1 - fault;
    }

    public int groups() {
        int came = lines.read();
        text.length = 0;
        if (came > 0) {
            house.count += came;
            house.reckon();
            past.clear();
        }
        return came;
    }

    public int rule() {
        int fault = house.law.faultOf(text);
        if (fault == NONE) {
            house.law.take(text);
            house.reckon();
        }
        text.length = 0;
        return fault == NONE ? 0 : -1 - fault;
    }

    public int group(int group, int what) throws NoSuchElementException {
        if (!house.hasGroup(group) || what < 0 || what > 8) {
            throw new NoSuchElementException();
        }
        switch (what) {
            case 0: return house.comes[group];
            case 1: return house.tongue[group];
            case 2: return house.size[group];
            case 3: return house.behind[group];
            case 4: return state.at[group];
            case 5: return state.left[group];
            case 6: return state.waited[group];
            case 7: return state.through[group];
            default: return house.leftOut[group];
        }
    }

    public int room(int room, int what) throws NoSuchElementException {
        if (!house.hasRoom(room) || what < 0 || what > 2) {
            throw new NoSuchElementException();
        }
        switch (what) {
            case 0: return house.isCorridor(room) ? 1 : 0;
            case 1: return state.bitsIn(room);
            default: return house.togetherIn(room, house.everybody());
        }
    }

    public int stay(int group, int room) {
        return house.hasGroup(group) && house.hasRoom(room) ? house.stays[group][room] : NONE;
    }

    public int leave(int group, int rooms) {
        if (!house.hasGroup(group) || rooms < 0 || rooms >= 1 << house.rooms) {
            return NONE;
        }
        int those = house.leftOut[group];
        house.leftOut[group] = rooms;
        house.reckon();
        return those;
    }

    public int sheet(int room, int kind, int n, int f, int step) {
        if (kind < 0 || kind > 3 || n > MOST || !house.hasRoom(room)) {
            return NONE;
        }
        if (kind != 3 && n < 0) {
            return -2;
        }
        int entries = kind == 3 ? 0 : n;
        int sum = 0;
        for (int g = 0; g < house.count; g++) {
            int entry = g < entries ? entryOf(kind, f + g * step) : 0;
            house.minutesTold[g][room] = entry;
            sum += entry;
        }
        house.reckon();
        return kind == 3 ? -3 : sum;
    }

    // ---- minutes

    public int off(int group) {
        if (!house.hasGroup(group)) {
            return NONE;
        }
        int bar = house.barTo(state, group);
        if (bar != 0) {
            return bar;
        }
        past.add(state);
        house.setOff(state, group);
        return Integer.bitCount(state.bitsInside());
    }

    public int over(int group, int n) {
        if (n < 1 || n > LONGEST_STAY || !isInside(group)) {
            return NONE;
        }
        past.add(state);
        state.runOver(group, n);
        return state.left[group];
    }

    public int stand(int n) {
        if (n < 1 || n > 60) {
            return NONE;
        }
        past.add(state);
        state.now += n;
        return state.now;
    }

    public int minute() {
        past.add(state);
        int gone = state.bitsThrough();
        house.pass(state);
        clearRow();
        tell(state.stepped);
        tell(state.waiting);
        return Integer.bitCount(state.bitsThrough() & ~gone);
    }

    public int minutes(int n) {
        if (n < 0 || n > 90) {
            return NONE;
        }
        if (n > 0) {
            past.add(state);
        }
        int gone = state.bitsThrough();
        int waited = state.waitedBy(house.everybody());
        house.goOn(state, n);
        gone = state.bitsThrough() & ~gone;
        clearRow();
        tell(gone);
        tell(state.waitedBy(house.everybody()) - waited);
        return Integer.bitCount(gone);
    }

    public int day() {
        int fault = faultOfDay();
        if (fault != NONE) {
            text.length = 0;
            return -1 - fault;
        }
        before.copy(state);
        int acts = actsTold();
        int done = doActs(acts);
        text.length = 0;
        if (done > 0) {
            past.add(before);
        }
        clearRow();
        tell(done < acts ? 1 : 0);
        tell(Integer.bitCount(state.bitsThrough() & ~before.bitsThrough()));
        return done;
    }

    public int undo() {
        if (past.size == 0) {
            return NONE;
        }
        past.takeBack(state);
        return past.size;
    }

    // ---- minutes to come

    public int where(int group, int n) {
        if (n < 0 || n > LONGEST_DAY) {
            return -2;
        }
        if (!house.hasGroup(group)) {
            return -3;
        }
        foreseen.copy(state);
        house.goOn(foreseen, n);
        clearRow();
        tell(foreseen.left[group]);
        tell(foreseen.waited[group]);
        return foreseen.at[group];
    }

    public int stuck() {
        foreseen.copy(state);
        house.goOn(foreseen, LONGEST_DAY);
        int forEver = foreseen.bitsInside();
        int others = state.bitsInside() & ~forEver;
        clearRow();
        tell(others == 0 ? 0 : foreseen.lastThrough(others) + 1 - state.now);
        return forEver;
    }

    public int order() {
        int fault = faultOfOrder();
        if (fault == NONE) {
            orders.take(text);
        }
        text.length = 0;
        if (fault != NONE) {
            return -1 - fault;
        }
        int those = orders.bits();
        if (!areOutside(those)) {
            return -100;
        }
        trial.begin(state, false);
        if (!trial.walk(orders, 0, LONGEST_DAY)) {
            return -200;
        }
        clearRow();
        for (int k = 0; k < orders.size; k++) {
            tell(trial.end.through[orders.who[k]] + 1 - state.now);
        }
        tell(trial.end.waitedBy(those));
        return trial.minutesGone();
    }

    public int best(int those) {
        if (!areOutside(those)) {
            return NONE;
        }
        int soonest = findSoonest(those, LONGEST_DAY);
        if (soonest == NONE) {
            return NOT_SO;
        }
        clearRow();
        tellFound();
        return soonest;
    }

    public int calm(int those) {
        if (!areOutside(those)) {
            return NONE;
        }
        int least = NONE;
        int soonest = NONE;
        int from = beginOrders(those, false);
        for (int turn = 0; turn < ALL_ORDERS && from != NONE; turn++) {
            if (trial.walk(orders, from, LONGEST_DAY)) {
                int waited = trial.end.waitedBy(those);
                int minutes = trial.minutesGone();
                if (least == NONE || waited < least || (waited == least && minutes < soonest)) {
                    least = waited;
                    soonest = minutes;
                    found.copy(orders);
                }
            }
            from = orders.turnToNext();
        }
        if (least == NONE) {
            return NOT_SO;
        }
        clearRow();
        tell(soonest);
        tellFound();
        return least;
    }

    public int many(int those, int n) {
        if (n < 1 || n > LONGEST_DAY || !areOutside(those)) {
            return NONE;
        }
        int soon = 0;
        int never = 0;
        int from = beginOrders(those, false);
        for (int turn = 0; turn < ALL_ORDERS && from != NONE; turn++) {
            if (!trial.walk(orders, from, LONGEST_DAY)) {
                never++;
            } else if (trial.minutesGone() <= n) {
                soon++;
            }
            from = orders.turnToNext();
        }
        clearRow();
        tell(never);
        return soon;
    }

    // ---- gaps

    public int gap(int ahead, int behind) {
        if (!house.hasGroup(ahead) || !house.hasGroup(behind) || ahead == behind) {
            return NONE;
        }
        if (house.behind[ahead] != house.behind[behind]) {
            return NOT_SO;
        }
        int gap = house.gapOf(ahead, behind);
        clearRow();
        tell(house.placeOfGap(ahead, behind, gap));
        return gap;
    }

    public int smooth(int those) {
        if (!areThere(those) || those == 0) {
            return NONE;
        }
        if (!goOneWay(those)) {
            return NOT_SO;
        }
        int soonest = NONE;
        int from = 0;
        orders.begin(those);
        for (int turn = 0; turn < ALL_ORDERS && from != NONE; turn++) {
            int minutes = smoothMinutes(orders);
            if (soonest == NONE || minutes < soonest) {
                soonest = minutes;
                found.copy(orders);
            }
            from = orders.turnToNext();
        }
        clearRow();
        tellFound();
        tellSettingOff(found);
        return soonest;
    }

    public int every(int group) {
        if (!house.hasGroup(group)) {
            return NONE;
        }
        int place = house.longestPlace(group);
        int longest = place == NONE ? 0 : house.stays[group][place];
        clearRow();
        tell(place);
        tell(longest == 0 ? NONE : (300 - house.wholeStay(group)) / longest + 1);
        return longest;
    }

    public int least(int those) {
        if (!areThere(those)) {
            return NONE;
        }
        int most = 0;
        for (int r = 0; r < house.rooms; r++) {
            if (!house.isCorridor(r)) {
                most = Math.max(most, house.togetherIn(r, those));
            }
        }
        for (int g = 0; g < house.count; g++) {
            if (has(those, g)) {
                most = Math.max(most, house.wholeStay(g));
            }
        }
        clearRow();
        tell(firstWithTogether(those, most));
        tell(bitsWithWhole(those, most));
        return most;
    }

    // ---- running over

    public int late(int group, int n) {
        if (n < 1 || n > LONGEST_STAY || !isInside(group)) {
            return NONE;
        }
        foresee(foreseen, group, 0);
        foresee(otherwise, group, n);
        if (foreseen.bitsInside() != 0 || otherwise.bitsInside() != 0) {
            return NOT_SO;
        }
        int inside = state.bitsInside();
        int later = 0;
        int sum = 0;
        for (int g = 0; g < house.count; g++) {
            int by = has(inside, g) ? otherwise.through[g] - foreseen.through[g] : 0;
            if (by > 0) {
                later |= 1 << g;
                sum += by;
            }
        }
        clearRow();
        tell(later);
        tell(sum);
        return otherwise.lastThrough(inside) - foreseen.lastThrough(inside);
    }

    public int slack(int group) {
        if (!isInside(group)) {
            return NONE;
        }
        foresee(foreseen, group, 0);
        if (foreseen.bitsInside() != 0) {
            return NOT_SO;
        }
        int others = state.bitsInside() & ~(1 << group);
        for (int n = LONGEST_STAY; n > 0; n--) {
            foresee(otherwise, group, n);
            if (nobodyLater(others)) {
                return n;
            }
        }
        return 0;
    }

    public int dies(int group, int n, int m) {
        if (n < 1 || n > 60 || m < 1 || m > 60 || !house.hasGroup(group)) {
            return NONE;
        }
        int place = house.longestPlace(group);
        int longest = place == NONE ? 0 : house.stays[group][place];
        if (n < longest) {
            return NOT_SO;
        }
        int late = 0;
        int last = 0;
        int by = m - n + longest;
        while (late < MOST_LATE && by > 0) {
            late++;
            last = by;
            by = by - n + longest;
        }
        clearRow();
        tell(last);
        return late;
    }

    // ---- joining, leaving out

    public int loss(int one, int other) {
        if (!house.hasGroup(one) || !house.hasGroup(other) || one == other) {
            return NONE;
        }
        return house.lossOf(one, other);
    }

    public int pairs() {
        joining.find();
        clearRow();
        tell(joining.bestLoss);
        for (int g = 0; g < house.count; g++) {
            tell(joining.bestMates[g]);
        }
        return joining.bestPairs;
    }

    public int brief(int those) {
        if (!areOutside(those)) {
            return NONE;
        }
        int soonest = findSoonest(those, LONGEST_DAY);
        int group = NONE;
        int room = NONE;
        for (int g = 0; g < house.count; g++) {
            for (int r = 0; r < house.rooms; r++) {
                int stay = house.stays[g][r];
                // where it stays for 0 MINUTES anyway, leaving out betters nothing
                if (stay > 0) {
                    house.stays[g][r] = 0;
                    int minutes = findSoonest(those, soonest == NONE ? LONGEST_DAY : soonest - 1);
                    house.stays[g][r] = stay;
                    if (minutes != NONE) {
                        soonest = minutes;
                        group = g;
                        room = r;
                    }
                }
            }
        }
        if (soonest == NONE) {
            return NOT_SO;
        }
        clearRow();
        tell(group);
        tell(room);
        return soonest;
    }

    // ---- heard

    public int heard(int room, int n, int tongue) {
        if (!house.hasRoom(room) || n < 1 || n > 300 || tongue < NONE || tongue > 4) {
            return NONE;
        }
        return walls.add(room, n, tongue);
    }

    public int forget() {
        int size = walls.size;
        walls.size = 0;
        return size;
    }

    public int fits(int those) {
        if (!areOutside(those)) {
            return NONE;
        }
        int fitting = 0;
        int from = beginOrders(those, true);
        for (int turn = 0; turn < ALL_ORDERS && from != NONE; turn++) {
            if (trial.walk(orders, from, walls.latest())) {
                if (fitting == 0) {
                    found.copy(orders);
                }
                fitting++;
            }
            from = orders.turnToNext();
        }
        clearRow();
        if (fitting > 0) {
            tellFound();
        }
        return fitting;
    }

    public int began(int those) {
        if (!areOutside(those)) {
            return NONE;
        }
        int first = 0;
        int last = 0;
        int from = beginOrders(those, true);
        for (int turn = 0; turn < ALL_ORDERS && from != NONE; turn++) {
            if (trial.walk(orders, from, walls.latest())) {
                first |= 1 << orders.who[0];
                last |= 1 << orders.who[orders.size - 1];
            }
            from = orders.turnToNext();
        }
        clearRow();
        tell(last);
        return first;
    }

    // ---- seasons

    public int season(int those, int seed, int n) {
        if (n < 1 || n > 20 || !areOutside(those)) {
            return NONE;
        }
        int drawn = seed;
        int good = 0;
        int soonest = NONE;
        int latest = NONE;
        int dayOfSoonest = NONE;
        trial.begin(state, false);
        for (int day = 0; day < n; day++) {
            drawn = orders.draw(those, drawn);
            if (trial.walk(orders, 0, LONGEST_DAY)) {
                int minutes = trial.minutesGone();
                good++;
                latest = Math.max(latest, minutes);
                if (soonest == NONE || minutes < soonest) {
                    soonest = minutes;
                    dayOfSoonest = day;
                }
            }
        }
        clearRow();
        tell(soonest);
        tell(latest);
        tell(dayOfSoonest);
        return good;
    }

    // ---- kept

    public boolean keep(int i) {
        if (i < 0 || i >= MOST_KEPT) {
            return false;
        }
        kept[i].copy(state);
        keptGroups[i] = house.count;
        return true;
    }

    public boolean again(int i) {
        if (i < 0 || i >= MOST_KEPT || keptGroups[i] != house.count) {
            return false;
        }
        state.copy(kept[i]);
        past.clear();
        return true;
    }

    public int count(int what) {
        switch (what) {
            case 0: return house.rooms;
            case 1: return house.count;
            case 2: return state.now;
            case 3: return house.everybody() & ~state.bitsInside() & ~state.bitsThrough();
            case 4: return state.bitsInside();
            case 5: return state.bitsThrough();
            case 6: return state.waitedBy(house.everybody());
            case 7: return walls.size;
            case 8: return past.size;
            case 9: return told;
            case 10: return text.length;
            default: return NONE;
        }
    }

    public int row(int i) throws NoSuchElementException {
        if (i < 0 || i >= told || i >= LONGEST_ROW) {
            throw new NoSuchElementException();
        }
        return numbers[i];
    }

    // ---- the ROW

    private void clearRow() {
        told = 0;
    }

    private void tell(int number) {
        if (told < LONGEST_ROW) {
            numbers[told] = number;
            told++;
        }
    }

    private void tellFound() {
        for (int k = 0; k < found.size; k++) {
            tell(found.who[k]);
        }
    }

    // ---- what calls ask first

    private static boolean has(int bits, int group) {
        return (bits >> group & 1) == 1;
    }

    private boolean isInside(int group) {
        return house.hasGroup(group) && has(state.bitsInside(), group);
    }

    private boolean areThere(int those) {
        return (those & ~house.everybody()) == 0;
    }

    private boolean areOutside(int those) {
        int away = state.bitsInside() | state.bitsThrough();
        return those != 0 && areThere(those) && (those & away) == 0;
    }

    private boolean goOneWay(int those) {
        int ways = 0;
        for (int g = 0; g < house.count; g++) {
            if (has(those, g)) {
                ways |= 1 << house.behind[g];
            }
        }
        return Integer.bitCount(ways) == 1;
    }

    // ---- parts of calls

    private int faultOfPalace() {
        text.most = MOST_SIGNS;
        for (int p = 0; p < text.length; p++) {
            int sign = text.at(p);
            if (p >= MOST || (sign != 'r' && sign != 'c')) {
                return p;
            }
        }
        return text.length == 0 ? 0 : NONE;
    }

    private void buildPalace() {
        house.rooms = text.length;
        house.corridors = 0;
        house.count = 0;
        for (int r = 0; r < text.length; r++) {
            if (text.at(r) == 'c') {
                house.corridors |= 1 << r;
            }
        }
        state.clear();
        past.clear();
        walls.size = 0;
        for (int i = 0; i < MOST_KEPT; i++) {
            keptGroups[i] = NONE;
        }
    }

    private static int entryOf(int kind, int told) {
        int entry = told;
        if (kind == 0) {
            entry = (byte) told;
        } else if (kind == 1) {
            entry = (short) told;
        }
        return Math.max(0, Math.min(9, entry));
    }

    private int faultOfOrder() {
        text.most = MOST_SIGNS;
        int those = 0;
        for (int p = 0; p < text.length; p++) {
            int group = text.letterAt(p);
            if (!house.hasGroup(group) || has(those, group)) {
                return p;
            }
            those |= 1 << group;
        }
        return text.length == 0 ? 0 : NONE;
    }

    private int beginOrders(int those, boolean listening) {
        trial.begin(state, listening);
        orders.begin(those);
        return 0;
    }

    /** As best(), but by those ORDERS alone by which all are THROUGH in so many MINUTES; NONE: there is no such. */
    private int findSoonest(int those, int limit) {
        int soonest = NONE;
        int least = 0;
        int from = beginOrders(those, false);
        for (int turn = 0; turn < ALL_ORDERS && from != NONE; turn++) {
            // what lasts longer than the best so far need not be followed to its end
            if (trial.walk(orders, from, soonest == NONE ? limit : soonest)) {
                int minutes = trial.minutesGone();
                int waited = trial.end.waitedBy(those);
                if (soonest == NONE || minutes < soonest || waited < least) {
                    soonest = minutes;
                    least = waited;
                    found.copy(orders);
                }
            }
            from = orders.turnToNext();
        }
        return soonest;
    }

    private int smoothMinutes(Orders order) {
        int start = 0;
        int last = 0;
        for (int k = 0; k < order.size; k++) {
            if (k > 0) {
                start += house.gapOf(order.who[k - 1], order.who[k]);
            }
            last = Math.max(last, start + house.wholeStay(order.who[k]));
        }
        return last;
    }

    private void tellSettingOff(Orders order) {
        int start = 0;
        for (int k = 0; k < order.size; k++) {
            if (k > 0) {
                start += house.gapOf(order.who[k - 1], order.who[k]);
            }
            tell(start);
        }
    }

    private int firstWithTogether(int those, int much) {
        for (int r = 0; r < house.rooms; r++) {
            if (!house.isCorridor(r) && house.togetherIn(r, those) == much) {
                return r;
            }
        }
        return NONE;
    }

    private int bitsWithWhole(int those, int much) {
        int bits = 0;
        for (int g = 0; g < house.count; g++) {
            if (has(those, g) && house.wholeStay(g) == much) {
                bits |= 1 << g;
            }
        }
        return bits;
    }

    private void foresee(State then, int group, int n) {
        then.copy(state);
        then.runOver(group, n);
        house.goOn(then, LONGEST_DAY);
    }

    private boolean nobodyLater(int others) {
        for (int g = 0; g < house.count; g++) {
            if (has(others, g) && (otherwise.through[g] == NONE || otherwise.through[g] > foreseen.through[g])) {
                return false;
            }
        }
        return true;
    }

    // ---- A DAY told

    private int faultOfDay() {
        text.most = MOST_OF_DAY;
        if (text.length == 0) {
            return NONE;
        }
        int p = 0;
        for (int act = 0; act <= MOST_SIGNS; act++) {
            int behind = behindAct(p);
            if (behind < 0) {
                return -1 - behind;
            }
            if (text.at(behind) == END) {
                return NONE;
            }
            if (text.at(behind) != ';') {
                return behind;
            }
            p = behind + 1;
        }
        return p;
    }

    /** The place behind the ACT at p, or -1 less the place of what can't stand there. */
    private int behindAct(int p) {
        switch (text.at(p)) {
            case 'm':
                if (text.digitAt(p + 1) == NONE) {
                    return -1 - (p + 1);
                }
                return text.digitAt(p + 2) == NONE ? p + 2 : p + 3;
            case 'o':
                return text.letterAt(p + 1) == NONE ? -1 - (p + 1) : p + 2;
            case 'p':
                return text.digitAt(p + 1) < 1 ? -1 - (p + 1) : p + 2;
            case 'v':
                if (text.letterAt(p + 1) == NONE) {
                    return -1 - (p + 1);
                }
                return text.digitAt(p + 2) < 1 ? -1 - (p + 2) : p + 3;
            default:
                return -1 - p;
        }
    }

    private int actsTold() {
        int acts = text.length == 0 ? 0 : 1;
        for (int p = 0; p < text.length; p++) {
            if (text.at(p) == ';') {
                acts++;
            }
        }
        return acts;
    }

    private int doActs(int acts) {
        int p = 0;
        for (int done = 0; done < acts; done++) {
            if (!doAct(p)) {
                return done;
            }
            p = behindAct(p) + 1;
        }
        return acts;
    }

    private boolean doAct(int p) {
        int first = text.digitAt(p + 1);
        int second = text.digitAt(p + 2);
        int group = text.letterAt(p + 1);
        switch (text.at(p)) {
            case 'm':
                int n = second == NONE ? first : first * 10 + second;
                if (n > 90) {
                    return false;
                }
                house.goOn(state, n);
                return true;
            case 'o':
                if (!house.hasGroup(group) || house.barTo(state, group) != 0) {
                    return false;
                }
                house.setOff(state, group);
                return true;
            case 'v':
                if (!isInside(group)) {
                    return false;
                }
                state.runOver(group, second);
                return true;
            default:
                state.now += first;
                return true;
        }
    }

    /** THE TEXT. */
    static final class Text {
        final char[] signs;
        int length;
        int most;

        Text() {
            signs = new char[MOST_SIGNS];
            length = 0;
            most = MOST_SIGNS;
        }

        int add(int v) {
            if (length < 0 || length + 4 > MOST_SIGNS) {
                return NONE;
            }
            for (int shift = 24; shift >= 0; shift -= 8) {
                signs[length] = (char) (v >>> shift & 255);
                length++;
            }
            return length;
        }

        boolean cut(int n) {
            if (n < 0 || n > length) {
                return false;
            }
            length = n;
            return true;
        }

        int at(int p) {
            if (p < 0 || p >= length || p >= MOST_SIGNS) {
                return END;
            }
            return p < most ? signs[p] : CUT;
        }

        int digitAt(int p) {
            int sign = at(p);
            return sign >= '0' && sign <= '9' ? sign - '0' : NONE;
        }

        /** The number of the GROUP whose letter stands at p. */
        int letterAt(int p) {
            int sign = at(p);
            return sign >= 'a' && sign <= 'f' ? sign - 'a' : NONE;
        }
    }

    /** Reads LINES into the house's rows behind its GROUPS; they count only if all can be read. */
    static final class Lines {
        private static final int MOST_OF_GROUPS = 76;

        private final Text text;
        private final House house;
        private int p;

        Lines(Text text, House house) {
            this.text = text;
            this.house = house;
            p = 0;
        }

        /** How many LINES there are, or -1 less the place of what can't stand there. */
        int read() {
            p = 0;
            text.most = MOST_OF_GROUPS;
            if (text.length == 0) {
                return 0;
            }
            for (int line = 0; line <= MOST; line++) {
                int group = house.count + line;
                if (house.rooms == 0 || group < 0 || group >= MOST || !readLine(group)) {
                    return -1 - p;
                }
                if (text.at(p) == END) {
                    return line + 1;
                }
                if (text.at(p) != ';') {
                    return -1 - p;
                }
                p++;
            }
            return -1 - p;
        }

        private boolean readLine(int group) {
            house.leftOut[group] = 0;
            return readComes(group) && readTongue(group) && readSize(group) && readWay(group) && readTold(group);
        }

        private int readNumber() {
            int number = text.digitAt(p);
            if (number == NONE) {
                return NONE;
            }
            p++;
            int digit = text.digitAt(p);
            if (digit == NONE) {
                return number;
            }
            p++;
            return number * 10 + digit;
        }

        private boolean readComes(int group) {
            house.comes[group] = readNumber();
            return house.comes[group] != NONE;
        }

        private boolean readTongue(int group) {
            int sign = text.at(p);
            if (sign < 'v' || sign > 'z') {
                return false;
            }
            house.tongue[group] = sign - 'v';
            p++;
            return true;
        }

        private boolean readSize(int group) {
            int size = readNumber();
            if (size == NONE) {
                return false;
            }
            if (size < 1 || size > MOST_SIZE) {
                p--;
                return false;
            }
            house.size[group] = size;
            return true;
        }

        private boolean readWay(int group) {
            int sign = text.at(p);
            if (sign != '>' && sign != '<') {
                return false;
            }
            house.behind[group] = sign == '<' ? 1 : 0;
            p++;
            return true;
        }

        private boolean readTold(int group) {
            for (int r = 0; r < house.rooms; r++) {
                int digit = text.digitAt(p);
                if (digit == NONE) {
                    return false;
                }
                house.minutesTold[group][r] = digit;
                p++;
            }
            return true;
        }
    }

    /** THE RULE: read anew from its signs for each STAY. */
    static final class Law {
        private static final int MOST_OF_RULE = 40;
        private static final int DEEPEST = 4;

        private final char[] signs;
        private int length;
        private char[] source;
        private int end;
        private boolean cut;
        private int p;
        private int fault;
        private int minutes;
        private int size;
        private int place;
        private int number;
        private int corridor;
        private int behind;

        Law() {
            signs = new char[MOST_OF_RULE];
            length = 0;
            source = signs;
        }

        /** The place of what can't stand there, or NONE. */
        int faultOf(Text text) {
            if (text.length == 0) {
                return NONE;
            }
            source = text.signs;
            end = Math.min(text.length, MOST_OF_RULE);
            cut = text.length > MOST_OF_RULE;
            readAll();
            return fault;
        }

        void take(Text text) {
            length = Math.min(text.length, MOST_OF_RULE);
            System.arraycopy(text.signs, 0, signs, 0, length);
        }

        int valueOf(House house, int group, int room) {
            if (length == 0) {
                return house.minutesTold[group][room];
            }
            minutes = house.minutesTold[group][room];
            size = house.size[group];
            place = room;
            number = group;
            corridor = house.isCorridor(room) ? 1 : 0;
            behind = house.behind[group];
            source = signs;
            end = length;
            cut = false;
            return readAll();
        }

        private int readAll() {
            p = 0;
            fault = NONE;
            int value = readExpression(0);
            if (look() != END) {
                fail();
            }
            return value;
        }

        // behind a fault all is as behind the end, so that every reading comes to its end at once
        private int look() {
            if (fault != NONE || p < 0) {
                return END;
            }
            if (p < end && p < source.length) {
                return source[p];
            }
            return cut ? CUT : END;
        }

        private void fail() {
            if (fault == NONE) {
                fault = p;
            }
        }

        private int readExpression(int depth) {
            int one = readSum(depth);
            int sign = look();
            if (sign != '<' && sign != '>' && sign != '=') {
                return one;
            }
            p++;
            int other = readSum(depth);
            boolean holds = sign == '<' ? one < other : sign == '>' ? one > other : one == other;
            return holds ? 1 : 0;
        }

        private int readSum(int depth) {
            int sum = readProduct(depth);
            for (int turn = 0; turn < MOST_OF_RULE; turn++) {
                int sign = look();
                if (sign != '+' && sign != '-') {
                    break;
                }
                p++;
                int next = readProduct(depth);
                sum = sign == '+' ? sum + next : sum - next;
            }
            return sum;
        }

        private int readProduct(int depth) {
            int product = readSigned(depth);
            for (int turn = 0; turn < MOST_OF_RULE; turn++) {
                int sign = look();
                if (sign != '*' && sign != '/') {
                    break;
                }
                p++;
                int next = readSigned(depth);
                if (sign == '*') {
                    product = product * next;
                } else {
                    product = next == 0 ? 0 : product / next;
                }
            }
            return product;
        }

        private int readSigned(int depth) {
            boolean minus = false;
            for (int turn = 0; turn < MOST_OF_RULE && look() == '-'; turn++) {
                minus = !minus;
                p++;
            }
            int thing = readThing(depth);
            return minus ? -thing : thing;
        }

        private int readThing(int depth) {
            int sign = look();
            if (sign >= '0' && sign <= '9') {
                return readDigits();
            }
            if (sign == '(' && depth < DEEPEST) {
                p++;
                int value = readExpression(depth + 1);
                if (look() == ')') {
                    p++;
                } else {
                    fail();
                }
                return value;
            }
            return readLetter(sign);
        }

        private int readDigits() {
            int value = 0;
            for (int k = 0; k < 3; k++) {
                int sign = look();
                if (sign < '0' || sign > '9') {
                    break;
                }
                value = value * 10 + sign - '0';
                p++;
            }
            return value;
        }

        private int readLetter(int sign) {
            int value = 0;
            switch (sign) {
                case 's': value = minutes; break;
                case 'z': value = size; break;
                case 'r': value = place; break;
                case 'i': value = number; break;
                case 'c': value = corridor; break;
                case 'o': value = behind; break;
                default: fail();
            }
            p++;
            return value;
        }
    }

    /** Where all are in a MINUTE. Rows of GROUPS that are not there are as of ones OUTSIDE. */
    static final class State {
        int now;
        int taken;
        int stepped;
        int waiting;
        final int[] at;
        final int[] left;
        final int[] waited;
        final int[] through;

        State() {
            at = new int[MOST];
            left = new int[MOST];
            waited = new int[MOST];
            through = new int[MOST];
            clear();
        }

        void clear() {
            now = 0;
            taken = 0;
            stepped = 0;
            waiting = 0;
            for (int g = 0; g < MOST; g++) {
                at[g] = OUTSIDE;
                left[g] = 0;
                waited[g] = 0;
                through[g] = NONE;
            }
        }

        void copy(State from) {
            now = from.now;
            taken = from.taken;
            System.arraycopy(from.at, 0, at, 0, MOST);
            System.arraycopy(from.left, 0, left, 0, MOST);
            System.arraycopy(from.waited, 0, waited, 0, MOST);
            System.arraycopy(from.through, 0, through, 0, MOST);
        }

        int bitsInside() {
            int bits = 0;
            for (int g = 0; g < MOST; g++) {
                if (at[g] != OUTSIDE && at[g] != THROUGH) {
                    bits |= 1 << g;
                }
            }
            return bits;
        }

        int bitsThrough() {
            return bitsIn(THROUGH);
        }

        int bitsIn(int room) {
            int bits = 0;
            for (int g = 0; g < MOST; g++) {
                if (at[g] == room) {
                    bits |= 1 << g;
                }
            }
            return bits;
        }

        int waitedBy(int those) {
            int sum = 0;
            for (int g = 0; g < MOST; g++) {
                if (has(those, g)) {
                    sum += waited[g];
                }
            }
            return sum;
        }

        int lastThrough(int those) {
            int last = NONE;
            for (int g = 0; g < MOST; g++) {
                if (has(those, g)) {
                    last = Math.max(last, through[g]);
                }
            }
            return last;
        }

        void runOver(int group, int n) {
            if (group >= 0 && group < MOST) {
                left[group] = Math.min(MOST_LEFT, left[group] + n);
            }
        }
    }

    /** THE PALACE, its GROUPS with their STAYS, and how they go through it. */
    static final class House {
        // no GROUP can step on more often in one MINUTE than there are ROOMS
        private static final int MOST_STEPS = MOST * MOST;

        int rooms;
        int corridors;
        int count;
        final int[] comes;
        final int[] tongue;
        final int[] size;
        final int[] behind;
        final int[] leftOut;
        final int[][] minutesTold;
        final int[][] stays;
        final Law law;

        House() {
            rooms = 0;
            corridors = 0;
            count = 0;
            comes = new int[MOST];
            tongue = new int[MOST];
            size = new int[MOST];
            behind = new int[MOST];
            leftOut = new int[MOST];
            minutesTold = new int[MOST][MOST];
            stays = new int[MOST][MOST];
            law = new Law();
        }

        boolean hasGroup(int group) {
            return group >= 0 && group < count;
        }

        boolean hasRoom(int room) {
            return room >= 0 && room < rooms;
        }

        boolean isCorridor(int room) {
            return (corridors >> room & 1) == 1;
        }

        int everybody() {
            return (1 << count) - 1;
        }

        /** STAYS are reckoned once, when what they hang on changes: days ask for them very often. */
        void reckon() {
            for (int g = 0; g < count; g++) {
                for (int r = 0; r < rooms; r++) {
                    boolean out = (leftOut[g] >> r & 1) == 1;
                    int value = out ? 0 : law.valueOf(this, g, r);
                    stays[g][r] = Math.max(0, Math.min(LONGEST_STAY, value));
                }
            }
        }

        int togetherIn(int room, int those) {
            int sum = 0;
            for (int g = 0; g < count; g++) {
                if (has(those, g)) {
                    sum += stays[g][room];
                }
            }
            return sum;
        }

        int wholeStay(int group) {
            int sum = 0;
            for (int r = 0; r < rooms; r++) {
                sum += stays[group][r];
            }
            return sum;
        }

        /** The first room (not a corridor) in which a GROUP stays longest. */
        int longestPlace(int group) {
            int place = NONE;
            for (int r = 0; r < rooms; r++) {
                if (!isCorridor(r) && (place == NONE || stays[group][r] > stays[group][place])) {
                    place = r;
                }
            }
            return place;
        }

        /** The ROOM that is k-th on a GROUP's way. */
        private int onWay(int group, int k) {
            return behind[group] == 1 ? rooms - 1 - k : k;
        }

        int gapOf(int first, int second) {
            int gap = 0;
            int entered = 0;
            int left = 0;
            for (int k = 0; k < rooms; k++) {
                int r = onWay(first, k);
                left += stays[first][r];
                if (!isCorridor(r)) {
                    gap = Math.max(gap, left - entered);
                }
                entered += stays[second][r];
            }
            return gap;
        }

        /** The first ROOM of their way at which just that gap is needed. */
        int placeOfGap(int first, int second, int gap) {
            int entered = 0;
            int left = 0;
            for (int k = 0; k < rooms; k++) {
                int r = onWay(first, k);
                left += stays[first][r];
                if (!isCorridor(r) && left - entered == gap) {
                    return r;
                }
                entered += stays[second][r];
            }
            return NONE;
        }

        /** What is lost by joining two, or NOT_SO if they can't be joined. */
        int lossOf(int one, int other) {
            if (tongue[one] != tongue[other] || behind[one] != behind[other] || size[one] + size[other] > MOST_SIZE) {
                return NOT_SO;
            }
            int sum = 0;
            for (int r = 0; r < rooms; r++) {
                int more = stays[one][r] - stays[other][r];
                sum += more > 0 ? more * size[other] : -more * size[one];
            }
            return sum;
        }

        /** 0 if a GROUP can set off, else what off() answers. */
        int barTo(State s, int group) {
            if (s.at[group] != OUTSIDE) {
                return -2;
            }
            if (s.now < comes[group]) {
                return -3;
            }
            return (s.taken >> onWay(group, 0) & 1) == 1 ? -4 : 0;
        }

        void setOff(State s, int group) {
            move(s, group, onWay(group, 0));
        }

        /** A corridor is never taken. */
        private void move(State s, int group, int to) {
            int from = s.at[group];
            if (from >= 0 && from < rooms) {
                s.taken &= ~(1 << from);
            }
            if (to < 0 || to >= rooms) {
                s.at[group] = THROUGH;
                s.left[group] = 0;
                s.through[group] = s.now;
                return;
            }
            s.at[group] = to;
            s.left[group] = stays[group][to];
            s.taken |= 1 << to & ~corridors;
        }

        private int firstThatCan(State s) {
            for (int g = 0; g < count; g++) {
                if (s.left[g] == 0 && s.at[g] != OUTSIDE && s.at[g] != THROUGH) {
                    int to = behind[g] == 1 ? s.at[g] - 1 : s.at[g] + 1;
                    if (to < 0 || to >= rooms || (s.taken >> to & 1) == 0) {
                        return g;
                    }
                }
            }
            return NONE;
        }

        /** A MINUTE goes by. */
        void pass(State s) {
            s.stepped = 0;
            s.waiting = 0;
            for (int g = 0; g < count; g++) {
                if (s.left[g] > 0) {
                    s.left[g]--;
                }
            }
            for (int turn = 0; turn < MOST_STEPS; turn++) {
                int g = firstThatCan(s);
                if (g == NONE) {
                    break;
                }
                s.stepped |= 1 << g;
                move(s, g, behind[g] == 1 ? s.at[g] - 1 : s.at[g] + 1);
            }
            for (int g = 0; g < count; g++) {
                if (s.left[g] == 0 && s.at[g] != OUTSIDE && s.at[g] != THROUGH) {
                    s.waiting |= 1 << g;
                    s.waited[g]++;
                }
            }
            s.now++;
        }

        /** At least one MINUTE goes by, at most so many: those in which nobody can step on in one go, then one more. */
        void advance(State s, int most) {
            int quiet = quietMinutes(s, most - 1);
            if (quiet > 0) {
                s.now += quiet;
                for (int g = 0; g < count; g++) {
                    if (s.left[g] > 0) {
                        s.left[g] -= quiet;
                    } else if (s.at[g] != OUTSIDE && s.at[g] != THROUGH) {
                        s.waited[g] += quiet;
                    }
                }
            }
            pass(s);
        }

        private int quietMinutes(State s, int most) {
            if (firstThatCan(s) != NONE) {
                return 0;
            }
            int quiet = most;
            for (int g = 0; g < count; g++) {
                if (s.left[g] > 0) {
                    quiet = Math.min(quiet, s.left[g] - 1);
                }
            }
            return quiet;
        }

        /** So many MINUTES go by. */
        void goOn(State s, int n) {
            int end = s.now + n;
            for (int turn = 0; turn < n && s.now < end; turn++) {
                advance(s, end - s.now);
            }
        }
    }

    /** The latest that can be undone. */
    static final class Past {
        private final State[] states;
        private int latest;
        int size;

        Past() {
            states = new State[MOST_PAST];
            for (int i = 0; i < MOST_PAST; i++) {
                states[i] = new State();
            }
            latest = 0;
            size = 0;
        }

        void clear() {
            size = 0;
        }

        void add(State state) {
            latest = latest + 1 < MOST_PAST ? latest + 1 : 0;
            states[latest].copy(state);
            size = Math.min(MOST_PAST, size + 1);
        }

        void takeBack(State state) {
            if (size > 0) {
                state.copy(states[latest]);
                latest = latest > 0 ? latest - 1 : MOST_PAST - 1;
                size--;
            }
        }
    }

    /** An ORDER, and those that come behind it as rows of numbers. */
    static final class Orders {
        final int[] who;
        int size;

        Orders() {
            who = new int[MOST];
            size = 0;
        }

        void copy(Orders from) {
            size = from.size;
            System.arraycopy(from.who, 0, who, 0, MOST);
        }

        /** The least ORDER of those. */
        void begin(int those) {
            size = 0;
            for (int g = 0; g < MOST; g++) {
                if (has(those, g)) {
                    who[size] = g;
                    size++;
                }
            }
        }

        void take(Text text) {
            size = Math.min(MOST, text.length);
            for (int k = 0; k < size; k++) {
                who[k] = Math.max(0, text.letterAt(k));
            }
        }

        int bits() {
            int bits = 0;
            for (int k = 0; k < size; k++) {
                bits |= 1 << who[k];
            }
            return bits;
        }

        /** The next ORDER as rows go: the first place that is another one's now, or NONE if there is no next. */
        int turnToNext() {
            int place = size - 2;
            while (place >= 0 && who[place] > who[place + 1]) {
                place--;
            }
            if (place < 0) {
                return NONE;
            }
            int next = size - 1;
            while (next > place + 1 && who[next] < who[place]) {
                next--;
            }
            swap(place, next);
            int low = place + 1;
            int high = size - 1;
            while (low < high) {
                swap(low, high);
                low++;
                high--;
            }
            return place;
        }

        private void swap(int one, int other) {
            int group = who[one];
            who[one] = who[other];
            who[other] = group;
        }

        /** An ORDER of those is drawn: what the next draw goes on from. */
        int draw(int those, int seed) {
            int drawn = seed;
            begin(those);
            // those left stand by numbers behind those drawn
            for (int k = 0; k < size; k++) {
                drawn = drawn * 1103515245 + 12345;
                int pick = k + (drawn >>> 16) % (size - k);
                int group = who[pick];
                for (int j = pick; j > k; j--) {
                    who[j] = who[j - 1];
                }
                who[k] = group;
            }
            return drawn;
        }
    }

    /** DAYS by ORDERS. Such as are tried one after another begin alike: what came of that is not gone through again. */
    static final class Trial {
        private final House house;
        private final Heard heard;
        private final State[] after;
        private boolean listening;
        private int failed;
        private int start;
        final State end;

        Trial(House house, Heard heard) {
            this.house = house;
            this.heard = heard;
            after = new State[MOST + 1];
            for (int k = 0; k <= MOST; k++) {
                after[k] = new State();
            }
            end = new State();
            failed = NONE;
        }

        /** Listening: a DAY is good if it fits what was heard, else if all of the ORDER get THROUGH. */
        void begin(State from, boolean listen) {
            after[0].copy(from);
            start = from.now;
            listening = listen;
            failed = NONE;
        }

        int minutesGone() {
            return end.now - start;
        }

        /** Whether the DAY is good; the ORDER is as the one tried last up to a place, the limit is no greater. */
        boolean walk(Orders order, int from, int limit) {
            if (failed != NONE && from > failed) {
                return false;
            }
            failed = NONE;
            int last = start + limit;
            for (int k = Math.max(0, from); k < order.size && k < MOST; k++) {
                after[k + 1].copy(after[k]);
                if (!sendOff(after[k + 1], order.who[k], last)) {
                    failed = k;
                    return false;
                }
            }
            end.copy(after[Math.min(order.size, MOST)]);
            return leadThrough(order.bits(), last);
        }

        private boolean sendOff(State s, int group, int last) {
            int whole = house.wholeStay(group);
            for (int turn = 0; turn <= LONGEST_DAY && s.now < last; turn++) {
                // it is not THROUGH sooner than its STAYS take, so that many an ORDER need not be followed further
                if (!listening && s.now + whole > last) {
                    return false;
                }
                if (house.barTo(s, group) == 0) {
                    house.setOff(s, group);
                    return true;
                }
                int come = house.comes[group];
                if (!goBy(s, come > s.now ? Math.min(come, last) : last)) {
                    return false;
                }
            }
            return listening;
        }

        private boolean leadThrough(int those, int last) {
            for (int turn = 0; turn <= LONGEST_DAY && end.now < last; turn++) {
                if (!listening && (end.bitsThrough() & those) == those) {
                    return true;
                }
                if (!goBy(end, last)) {
                    return false;
                }
            }
            return listening || (end.bitsThrough() & those) == those;
        }

        /** MINUTES go by, till a given one at most: whether what was heard meanwhile was so. */
        private boolean goBy(State s, int last) {
            if (!listening) {
                house.advance(s, last - s.now);
                return true;
            }
            int next = start + heard.nextBehind(s.now - start);
            house.advance(s, Math.min(last, next) - s.now);
            return heard.isSo(house, s, s.now - start);
        }
    }

    /** What was heard through walls. */
    static final class Heard {
        private final int[] places;
        private final int[] minutes;
        private final int[] tongues;
        int size;

        Heard() {
            places = new int[MOST_HEARD];
            minutes = new int[MOST_HEARD];
            tongues = new int[MOST_HEARD];
            size = 0;
        }

        int add(int place, int n, int tongue) {
            if (size < 0 || size >= MOST_HEARD) {
                return NONE;
            }
            places[size] = place;
            minutes[size] = n;
            tongues[size] = tongue;
            size++;
            return size;
        }

        int latest() {
            int latest = 0;
            for (int i = 0; i < size; i++) {
                latest = Math.max(latest, minutes[i]);
            }
            return latest;
        }

        /** The first MINUTE behind one in which something was heard (none: far off). */
        int nextBehind(int minute) {
            int next = minute + LONGEST_DAY;
            for (int i = 0; i < size; i++) {
                if (minutes[i] > minute) {
                    next = Math.min(next, minutes[i]);
                }
            }
            return next;
        }

        boolean isSo(House house, State s, int minute) {
            for (int i = 0; i < size; i++) {
                if (minutes[i] == minute && !sounds(house, s.bitsIn(places[i]), tongues[i])) {
                    return false;
                }
            }
            return true;
        }

        private static boolean sounds(House house, int those, int tongue) {
            if (tongue == NONE) {
                return those == 0;
            }
            for (int g = 0; g < house.count; g++) {
                if (has(those, g) && house.tongue[g] == tongue) {
                    return true;
                }
            }
            return false;
        }
    }

    /** The best pairs to join: all ways of pairing are gone through, the least rows first. */
    static final class Joining {
        private final House house;
        private final int[] mates;
        final int[] bestMates;
        int bestPairs;
        int bestLoss;

        Joining(House house) {
            this.house = house;
            mates = new int[MOST];
            bestMates = new int[MOST];
        }

        void find() {
            for (int g = 0; g < MOST; g++) {
                mates[g] = NONE;
            }
            bestPairs = NONE;
            bestLoss = 0;
            pairFrom(0, 0, 0);
        }

        private void pairFrom(int group, int pairs, int loss) {
            if (group >= house.count || group >= MOST) {
                judge(pairs, loss);
                return;
            }
            pairFrom(group + 1, pairs, loss);
            if (mates[group] != NONE) {
                return;
            }
            for (int mate = group + 1; mate < house.count; mate++) {
                int more = mates[mate] == NONE ? house.lossOf(group, mate) : NOT_SO;
                if (more != NOT_SO) {
                    mates[group] = mate;
                    mates[mate] = group;
                    pairFrom(group + 1, pairs + 1, loss + more);
                    mates[group] = NONE;
                    mates[mate] = NONE;
                }
            }
        }

        private void judge(int pairs, int loss) {
            if (pairs > bestPairs || (pairs == bestPairs && loss < bestLoss)) {
                bestPairs = pairs;
                bestLoss = loss;
                System.arraycopy(mates, 0, bestMates, 0, MOST);
            }
        }
    }
}
