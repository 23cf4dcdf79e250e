import java.util.ArrayList;
import java.util.List;

/**
 * DOC.md told a second time, with lists and copies and no care for speed: rows of SALES are all
 * looked through, none passed over. ModelTest holds the class against it.
 */
final class Model {
    static final class Thing {
        int hand;
        int[] worth = {5, 5, 5, 5, 5, 5};
    }

    /** A side is a THING (person -1) or one of PEOPLE (thing null). */
    static final class Side {
        Thing thing;
        int person = -1;
    }

    static final class Suit {
        Side[] sides = new Side[2];
        boolean over;
    }

    static final class State {
        int[] purse = {50, 50, 50, 50, 50, 50};
        int[] cost = {3, 3, 3, 3, 3, 3};
        boolean stay;
        boolean parishEnds;
        int sales;
        List<Thing> things = new ArrayList<>();
        List<Suit> suits = new ArrayList<>();

        State copy() {
            State c = new State();
            c.purse = purse.clone();
            c.cost = cost.clone();
            c.stay = stay;
            c.parishEnds = parishEnds;
            c.sales = sales;
            for (Thing t : things) {
                Thing n = new Thing();
                n.hand = t.hand;
                n.worth = t.worth.clone();
                c.things.add(n);
            }
            for (Suit s : suits) {
                Suit n = new Suit();
                n.over = s.over;
                for (int k = 0; k < 2; k++) {
                    n.sides[k] = c.side(number(s.sides[k]));
                }
                c.suits.add(n);
            }
            return c;
        }

        Side side(int number) {
            Side s = new Side();
            if (number >= 10 && number <= 15) {
                s.person = number - 10;
            } else if (number >= 0 && number < things.size()) {
                s.thing = things.get(number);
            } else {
                return null;
            }
            return s;
        }

        int number(Side s) {
            return s.thing == null ? 10 + s.person : things.indexOf(s.thing);
        }

        int stands(Side s) {
            return s.thing == null ? s.person : s.thing.hand;
        }

        int close() {
            int n = 0;
            for (Suit s : suits) {
                if (s.over) {
                    continue;
                }
                int a = stands(s.sides[0]);
                int b = stands(s.sides[1]);
                boolean ofParish = a == 6 || b == 6;
                if (a == b && a != 6 || parishEnds && ofParish) {
                    s.over = true;
                    n++;
                }
            }
            return n;
        }

        void stayWith(Thing t) {
            if (stay && t.hand != 6) {
                for (Suit s : suits) {
                    for (int k = 0; k < 2; k++) {
                        if (!s.over && s.sides[k].thing == t) {
                            Side n = new Side();
                            n.person = t.hand;
                            s.sides[k] = n;
                        }
                    }
                }
            }
        }

        int sell(int thing, int to, int price) {
            Thing t = things.get(thing);
            stayWith(t);
            if (to != 6) {
                purse[to] -= price;
            }
            if (t.hand != 6) {
                purse[t.hand] = Math.min(9999, purse[t.hand] + price);
            }
            t.hand = to;
            sales++;
            return close();
        }

        int swap(int one, int other) {
            Thing a = things.get(one);
            Thing b = things.get(other);
            stayWith(a);
            stayWith(b);
            int was = a.hand;
            a.hand = b.hand;
            b.hand = was;
            sales += 2;
            return close();
        }

        int wed(int a, int b) {
            for (Thing t : things) {
                t.hand = t.hand == b ? a : t.hand;
            }
            for (Suit s : suits) {
                for (Side d : s.sides) {
                    if (d.thing == null && d.person == b) {
                        d.person = a;
                    }
                }
            }
            purse[a] = Math.min(9999, purse[a] + purse[b]);
            purse[b] = 0;
            return close();
        }

        int part(int thing, int set) {
            Thing old = things.get(thing);
            Thing n = new Thing();
            n.hand = old.hand;
            for (int p = 0; p < 6; p++) {
                n.worth[p] = old.worth[p] / 2;
                old.worth[p] -= n.worth[p];
            }
            things.add(n);
            for (int i = 0; i < suits.size(); i++) {
                for (Side d : suits.get(i).sides) {
                    if ((set & 1 << i) != 0 && !suits.get(i).over && d.thing == old) {
                        d.thing = n;
                    }
                }
            }
            return things.size() - 1;
        }

        int standsIn(int p) {
            int n = 0;
            for (Suit s : suits) {
                if (!s.over && (stands(s.sides[0]) == p || stands(s.sides[1]) == p)) {
                    n++;
                }
            }
            return n;
        }

        int value(int p) {
            int v = -cost[p] * standsIn(p);
            for (Thing t : things) {
                v += t.hand == p ? t.worth[p] : 0;
            }
            return v;
        }

        int yearly() {
            int sum = 0;
            for (int p = 0; p < 6; p++) {
                sum += cost[p] * standsIn(p);
            }
            return sum;
        }

        int never() {
            int set = 0;
            for (int i = 0; i < suits.size(); i++) {
                Suit s = suits.get(i);
                if (!s.over && s.sides[0].thing == null && s.sides[1].thing == null) {
                    set |= 1 << i;
                }
            }
            return set;
        }

        boolean allOverBut(int set) {
            for (int i = 0; i < suits.size(); i++) {
                if (!suits.get(i).over && (set & 1 << i) == 0) {
                    return false;
                }
            }
            return true;
        }

        int agreed(int thing, int to) {
            int seller = things.get(thing).hand;
            State behind = copy();
            behind.sell(thing, to, 0);
            int gs = behind.value(seller) - value(seller);
            int gb = behind.value(to) - value(to);
            for (int price = 0; price <= 999; price++) {
                if (gs + price > 0 && gb - price > 0 && purse[to] >= price) {
                    return price;
                }
            }
            return -4;
        }
    }

    State now = new State();
    State kept = null;
    StringBuilder tape = new StringBuilder();
    /** Each null, or a byte[], a short[] or an int[]. */
    Object[] sheets = new Object[4];

    private static boolean in(int v, int least, int most) {
        return v >= least && v <= most;
    }

    private boolean thingThere(int t) {
        return in(t, 0, now.things.size() - 1);
    }

    int person(int p, int what, int v) {
        if (!in(p, 0, 5) || !in(what, 0, 1) || !in(v, 0, what == 0 ? 999 : 99)) {
            return -1;
        }
        int[] row = what == 0 ? now.purse : now.cost;
        int was = row[p];
        row[p] = v;
        return was;
    }

    int rule(int what, int v) {
        if (!in(what, 0, 1) || !in(v, 0, 1)) {
            return -1;
        }
        boolean was = what == 0 ? now.stay : now.parishEnds;
        if (what == 0) {
            now.stay = v == 1;
        } else {
            now.parishEnds = v == 1;
        }
        now.close();
        return was ? 1 : 0;
    }

    int thing(int hand) {
        if (!in(hand, 0, 6)) {
            return -1;
        }
        if (now.things.size() == 8) {
            return -3;
        }
        Thing t = new Thing();
        t.hand = hand;
        now.things.add(t);
        return now.things.size() - 1;
    }

    int worth(int t, int p, int v) {
        if (!thingThere(t) || !in(p, 0, 5) || !in(v, 0, 99)) {
            return -1;
        }
        int was = now.things.get(t).worth[p];
        now.things.get(t).worth[p] = v;
        return was;
    }

    int suit(int a, int b) {
        Side one = now.side(a);
        Side other = now.side(b);
        if (one == null || other == null || a == b) {
            return -1;
        }
        if (now.suits.size() == 12) {
            return -3;
        }
        Suit s = new Suit();
        s.sides = new Side[] {one, other};
        now.suits.add(s);
        now.close();
        return now.suits.size() - 1;
    }

    int told(int i, int what) {
        if (!in(i, 0, now.suits.size() - 1) || !in(what, 0, 4)) {
            return -1;
        }
        Suit s = now.suits.get(i);
        if (what == 4) {
            return s.over ? 1 : 0;
        }
        return what < 2 ? now.number(s.sides[what]) : now.stands(s.sides[what - 2]);
    }

    int hand(int t) {
        return thingThere(t) ? now.things.get(t).hand : -1;
    }

    int purse(int p) {
        return in(p, 0, 5) ? now.purse[p] : -1;
    }

    int value(int p) {
        return in(p, 0, 5) ? now.value(p) : -100001;
    }

    int type(long w, int n) {
        if (!in(n, 1, 8)) {
            return -1;
        }
        String s = "";
        for (int k = 0; k < n; k++) {
            int b = (int) (w >>> 8 * k & 0xFF);
            if (!in(b, 32, 126)) {
                return -1;
            }
            s = (char) b + s;
        }
        if (tape.length() + n > 80) {
            return -3;
        }
        tape.append(s);
        return tape.length();
    }

    /** The bytes that are no blanks, each behind its place; behind them the end, as a sign 0. */
    private List<int[]> signs() {
        List<int[]> out = new ArrayList<>();
        for (int i = 0; i < tape.length(); i++) {
            if (tape.charAt(i) != ' ') {
                out.add(new int[] {i, tape.charAt(i)});
            }
        }
        out.add(new int[] {tape.length(), 0});
        tape.setLength(0);
        return out;
    }

    int village() {
        List<Thing> found = new ArrayList<>();
        List<int[]> signs = signs();
        for (int k = 0; k < signs.size(); k++) {
            int c = signs.get(k)[1];
            int column = k % 8;
            boolean stands;
            if (column == 0) {
                stands = in(c, '0', '5') || c == '-';
                Thing t = new Thing();
                t.hand = c == '-' ? 6 : c - '0';
                found.add(t);
            } else if (column < 7) {
                stands = in(c, '0', '9');
                found.get(found.size() - 1).worth[column - 1] = c - '0';
            } else if (c == 0) {
                now.things = found;
                now.suits = new ArrayList<>();
                return found.size();
            } else {
                stands = c == ';' && found.size() < 8;
            }
            if (!stands) {
                return -20 - signs.get(k)[0];
            }
        }
        throw new IllegalStateException("the end always stops it");
    }

    int suits() {
        List<int[]> found = new ArrayList<>();
        List<int[]> signs = signs();
        int first = -1;
        for (int k = 0; k < signs.size(); k++) {
            int c = signs.get(k)[1];
            int side = in(c, 'a', 'h') && thingThere(c - 'a') ? c - 'a' : in(c, '0', '5') ? c - '0' + 10 : -1;
            boolean stands;
            if (k % 3 == 0) {
                stands = side >= 0;
                first = side;
            } else if (k % 3 == 1) {
                stands = side >= 0 && side != first;
                found.add(new int[] {first, side});
            } else if (c == 0) {
                break;
            } else {
                stands = c == ',' && found.size() < 12;
            }
            if (!stands) {
                return -20 - signs.get(k)[0];
            }
        }
        if (now.suits.size() + found.size() > 12) {
            return -3;
        }
        for (int[] s : found) {
            suit(s[0], s[1]);
        }
        return found.size();
    }

    int count(int what) {
        int overs = 0;
        for (Suit s : now.suits) {
            overs += s.over ? 1 : 0;
        }
        int[] all = {now.things.size(), now.suits.size(), overs, now.yearly(), now.sales};
        return in(what, 0, 4) ? all[what] : -1;
    }

    int sale(int t, int to, int price) {
        if (!thingThere(t) || !in(to, 0, 5) || !in(price, 0, 999)) {
            return -1;
        }
        if (now.things.get(t).hand == to || now.purse[to] < price) {
            return -2;
        }
        return now.sell(t, to, price);
    }

    int swap(int a, int b) {
        if (!thingThere(a) || !thingThere(b)) {
            return -1;
        }
        return hand(a) == hand(b) ? -2 : now.swap(a, b);
    }

    int give(int t) {
        if (!thingThere(t)) {
            return -1;
        }
        return hand(t) == 6 ? -2 : now.sell(t, 6, 0);
    }

    int wed(int a, int b) {
        return !in(a, 0, 5) || !in(b, 0, 5) || a == b ? -1 : now.wed(a, b);
    }

    int part(int t, int set) {
        if (!thingThere(t) || set < 0 || set >> now.suits.size() != 0) {
            return -1;
        }
        return now.things.size() == 8 ? -3 : now.part(t, set);
    }

    int gain(int t, int to, int what) {
        if (!thingThere(t) || !in(to, 0, 5) || !in(what, 0, 1)) {
            return -100001;
        }
        int seller = hand(t);
        if (seller == to) {
            return -100002;
        }
        int who = what == 0 ? seller : to;
        State behind = now.copy();
        behind.sell(t, to, 0);
        return who == 6 ? 0 : behind.value(who) - now.value(who);
    }

    int agreed(int t, int to) {
        if (!thingThere(t) || !in(to, 0, 5)) {
            return -1;
        }
        return hand(t) == 6 || hand(t) == to ? -2 : now.agreed(t, to);
    }

    int rest(int n) {
        if (!in(n, 1, 60)) {
            return -1;
        }
        int made = 0;
        for (boolean goesOn = true; goesOn && made < n; made += goesOn ? 1 : 0) {
            goesOn = false;
            for (int k = 0; k < now.things.size() * 6 && !goesOn; k++) {
                int price = agreed(k / 6, k % 6);
                if (price >= 0) {
                    now.sell(k / 6, k % 6, price);
                    goesOn = true;
                }
            }
        }
        return made;
    }

    int group(int t) {
        int[] of = new int[16];
        for (int k = 0; k < 16; k++) {
            of[k] = k;
        }
        for (Suit s : now.suits) {
            int a = of[now.number(s.sides[0])];
            int b = of[now.number(s.sides[1])];
            for (int k = 0; k < 16 && !s.over; k++) {
                of[k] = of[k] == a ? b : of[k];
            }
        }
        if (t == -1) {
            int n = 0;
            for (int g = 0; g < 16; g++) {
                int members = 0;
                for (int k = 0; k < 16; k++) {
                    members += of[k] == g ? 1 : 0;
                }
                n += members >= 2 ? 1 : 0;
            }
            return n;
        }
        if (!thingThere(t)) {
            return -1;
        }
        int set = 0;
        for (int k = 0; k < 16; k++) {
            set |= of[k] == of[t] ? 1 << k : 0;
        }
        return set;
    }

    int never() {
        return now.never();
    }

    /** All rows of so many SALES, in their order, with the states behind them. */
    private interface Look {
        boolean at(State behind, int[] row);
    }

    private static boolean rows(State from, int[] row, int made, Look look) {
        if (made == row.length) {
            return look.at(from, row);
        }
        for (int t = 0; t < from.things.size(); t++) {
            for (int to = 0; to < 6; to++) {
                if (from.things.get(t).hand != to) {
                    State behind = from.copy();
                    behind.sell(t, to, 0);
                    row[made] = 10 * t + to;
                    if (rows(behind, row, made + 1, look)) {
                        return true;
                    }
                }
            }
        }
        return false;
    }

    /** The row of FEWEST, or null. */
    int[] fewestRow() {
        int spared = now.never();
        for (int n = 0; n <= 3; n++) {
            int[] row = new int[n];
            if (rows(now.copy(), row, 0, (behind, r) -> behind.allOverBut(spared))) {
                return row;
            }
        }
        return null;
    }

    int fewest(int i) {
        if (!in(i, -1, 2)) {
            return -1;
        }
        int[] row = fewestRow();
        if (row == null) {
            return -4;
        }
        if (i == -1) {
            return row.length;
        }
        return i < row.length ? row[i] : -4;
    }

    int best(int years, int i) {
        if (!in(years, 1, 9) || !in(i, -2, 1)) {
            return -1;
        }
        int[] least = {Integer.MAX_VALUE};
        int[][] chosen = new int[1][];
        for (int n = 0; n <= 2; n++) {
            rows(now.copy(), new int[n], 0, (behind, r) -> {
                int sum = behind.yearly() * years + r.length;
                if (sum < least[0]) {
                    least[0] = sum;
                    chosen[0] = r.clone();
                }
                return false;
            });
        }
        if (i == -2) {
            return least[0];
        }
        if (i == -1) {
            return chosen[0].length;
        }
        return i < chosen[0].length ? chosen[0][i] : -4;
    }

    int saves(int a, int b) {
        if (!in(a, 0, 5) || !in(b, 0, 5) || a == b) {
            return -100001;
        }
        State behind = now.copy();
        behind.wed(a, b);
        return now.yearly() - behind.yearly();
    }

    int match() {
        int pair = -1;
        for (int k = 0; k < 60; k++) {
            int a = k / 10;
            int b = k % 10;
            if (a < b && b < 6 && (pair < 0 || saves(a, b) > saves(pair / 10, pair % 10))) {
                pair = k;
            }
        }
        return pair;
    }

    int against(int t, int to, int who) {
        if (!thingThere(t) || !in(to, 0, 5) || !in(who, 0, 5) || who == to || who == hand(t)) {
            return -100001;
        }
        if (hand(t) == to) {
            return -100002;
        }
        State behind = now.copy();
        behind.sell(t, to, 0);
        return now.value(who) - behind.value(who);
    }

    int pays(int t, int to, int price, int y, int c) {
        if (!thingThere(t) || !in(to, 0, 5) || !in(price, 0, 999) || !in(y, 1, 9) || !in(c, 0, 16)) {
            return -100001;
        }
        if (hand(t) == to) {
            return -100002;
        }
        State behind = now.copy();
        behind.sell(t, to, 0);
        int more = behind.standsIn(to) - now.standsIn(to);
        return 16 * (now.things.get(t).worth[to] - price) - 16 * y * now.cost[to] * more - c * y * now.cost[to];
    }

    int image() {
        kept = now.copy();
        return 1;
    }

    int restore() {
        if (kept == null) {
            return -4;
        }
        now = kept.copy();
        return 1;
    }

    private static int laneOf(Object row) {
        return row instanceof byte[] ? 0 : row instanceof short[] ? 1 : 2;
    }

    private static int length(Object row) {
        return java.lang.reflect.Array.getLength(row);
    }

    int deal(int sheet, int lane, int i, int n) {
        if (!in(sheet, 0, 3) || !in(lane, 0, 2) || !in(n, 1, 8)) {
            return -1;
        }
        Object row = sheets[sheet];
        if (row == null) {
            return -11;
        }
        if (laneOf(row) != lane) {
            return -12;
        }
        if (i < 0 || (long) i + 3 * n > length(row)) {
            return -13;
        }
        for (int k = 0; k < n; k++) {
            int[] v = new int[3];
            for (int m = 0; m < 3; m++) {
                v[m] = java.lang.reflect.Array.getInt(row, i + 3 * k + m);
            }
            if (sale(v[0], v[1], v[2]) < 0) {
                return k;
            }
        }
        return n;
    }

    int sheet(int sheet, int lane, int n) {
        if (!in(sheet, 0, 3) || !in(lane, 0, 2) || n > 24) {
            return -1;
        }
        if (n < 0) {
            return -14;
        }
        sheets[sheet] = lane == 0 ? new byte[n] : lane == 1 ? (Object) new short[n] : new int[n];
        return n;
    }

    int drop(int sheet) {
        if (!in(sheet, 0, 3)) {
            return -1;
        }
        if (sheets[sheet] == null) {
            return -11;
        }
        int n = length(sheets[sheet]);
        sheets[sheet] = null;
        return n;
    }

    int item(int sheet, int lane, int i, int v) {
        if (!in(sheet, 0, 3) || !in(lane, 0, 2)) {
            return -1;
        }
        Object row = sheets[sheet];
        if (row == null) {
            return -11;
        }
        if (laneOf(row) != lane) {
            return -12;
        }
        if (!in(i, 0, length(row) - 1)) {
            return -13;
        }
        if (lane == 0) {
            ((byte[]) row)[i] = (byte) v;
        } else if (lane == 1) {
            ((short[]) row)[i] = (short) v;
        } else {
            ((int[]) row)[i] = v;
        }
        return 1;
    }

    int copy(int from, int i, int to, int j, int n) {
        if (!in(from, 0, 3) || !in(to, 0, 3)) {
            return -1;
        }
        Object a = sheets[from];
        Object b = sheets[to];
        if (a == null || b == null) {
            return -11;
        }
        if (laneOf(a) != laneOf(b)) {
            return -12;
        }
        if (n < 0 || i < 0 || j < 0 || (long) i + n > length(a) || (long) j + n > length(b)) {
            return -13;
        }
        System.arraycopy(a, i, b, j, n);
        return n;
    }
}
