import java.io.PrintStream;

/** Long runs of calls, told by a counter, on the class and on the Model: each answer must be the same. */
public final class ModelTest {
    private static final int RUNS = 2000;
    /** Nothing is promised behind the 512th call. */
    private static final int CALLS = 512;
    /** A step takes as many calls at most: a text typed byte by byte, and read. */
    private static final int DEAREST_STEP = 81;
    private static final int ALL_TOLD = 146;

    private long seed;
    private QuarrelSales x;
    private Model m;
    private int calls;
    private String call;
    private int got;
    private int want;

    private ModelTest(long seed) {
        this.seed = seed * 0x9E3779B97F4A7C15L + 1;
    }

    private int below(int n) {
        seed = seed * 6364136223846793005L + 1442695040888963407L;
        return (int) ((seed >>> 33) % n);
    }

    private boolean once(int in) {
        return below(in) == 0;
    }

    /** Mostly 0 .. n - 1, now and then a little or far outside. */
    private int about(int n) {
        if (once(40)) {
            int[] odd = {-1, n, n + 1, -2, Integer.MAX_VALUE, Integer.MIN_VALUE, 31, 32, 64};
            return odd[below(odd.length)];
        }
        return below(n);
    }

    private int aThing() {
        return about(Math.max(1, m.now.things.size()));
    }

    private int aSide() {
        return once(2) ? aThing() : 10 + about(6);
    }

    private int aPrice() {
        return once(10) ? about(1000) : about(30);
    }

    private void due(String what, int answered, int answer) {
        calls++;
        if (got == want) {
            call = what;
            got = answered;
            want = answer;
        }
    }

    private String villageText() {
        StringBuilder s = new StringBuilder();
        int n = 1 + below(8);
        for (int t = 0; t < n; t++) {
            s.append(t == 0 ? "" : ";").append("012345-".charAt(below(7)));
            for (int p = 0; p < 6; p++) {
                s.append((char) ('0' + below(10)));
            }
        }
        return s.toString();
    }

    private String suitsText() {
        StringBuilder s = new StringBuilder();
        int n = 1 + (once(4) ? below(13) : below(4));
        int things = m.now.things.size();
        String sides = "abcdefgh".substring(0, things) + "012345" + "abcdefgh".substring(0, things);
        for (int k = 0; k < n; k++) {
            char a = sides.charAt(below(sides.length()));
            char b = sides.charAt(below(sides.length()));
            if (a == b && !once(20)) {
                b = a == '0' ? '1' : '0';
            }
            s.append(k == 0 ? "" : ",").append(a).append(b);
        }
        return s.toString();
    }

    private String blurred(String text) {
        StringBuilder s = new StringBuilder(text);
        while (once(4) && s.length() < 78) {
            s.insert(below(s.length() + 1), ' ');
        }
        if (once(5) && s.length() > 0) {
            s.setCharAt(below(s.length()), ";,-069ahiA :/`".charAt(below(14)));
        }
        if (once(9) && s.length() < 80) {
            s.insert(below(s.length() + 1), ";,-069ahiA :/`".charAt(below(14)));
        }
        if (once(9)) {
            s.setLength(below(s.length() + 1));
        }
        return s.toString();
    }

    private void type(String text) {
        for (int i = 0; i < text.length(); ) {
            int n = Math.min(once(3) ? 1 + below(8) : 8, text.length() - i);
            long w = below(1 << 16);
            for (int k = 0; k < n; k++) {
                w = w << 8 | text.charAt(i + k);
            }
            i += n;
            due("type(" + w + ", " + n + ")", x.type(w, n), m.type(w, n));
        }
    }

    private void villageOf(String text) {
        type(text);
        due("village()", x.village(), m.village());
    }

    private void suitsOf(String text) {
        type(text);
        due("suits()", x.suits(), m.suits());
    }

    private void toldAll() {
        for (int w = -1; w < 6; w++) {
            due("count(" + w + ")", x.count(w), m.count(w));
            for (int s = -1; s < 13; s++) {
                due("told(" + s + ", " + w + ")", x.told(s, w), m.told(s, w));
            }
        }
        for (int k = -1; k < 9; k++) {
            toldOf(k);
        }
        due("never()", x.never(), m.never());
    }

    private void toldOf(int k) {
        due("hand(" + k + ")", x.hand(k), m.hand(k));
        due("purse(" + k + ")", x.purse(k), m.purse(k));
        due("value(" + k + ")", x.value(k), m.value(k));
        due("group(" + k + ")", x.group(k), m.group(k));
    }

    private void toldSome() {
        toldOf(below(8));
        int s = below(12);
        int w = below(5);
        due("told(" + s + ", " + w + ")", x.told(s, w), m.told(s, w));
        due("count(" + w + ")", x.count(w), m.count(w));
        due("never()", x.never(), m.never());
    }

    private void callOne() {
        int a = below(41);
        switch (a) {
            case 0: aPerson(); break;
            case 1: if (once(4)) { rule(about(2), about(2)); } break;
            case 2: if (once(3)) { thing(about(7)); } break;
            case 3: worth(aThing(), about(6), about(100)); break;
            case 4: case 5: suit(aSide(), aSide()); break;
            case 6: type((long) below(1 << 30) << 32 | below(1 << 30), about(9)); break;
            case 7: case 8: if (once(3)) { villageOf(blurred(villageText())); } break;
            case 9: case 10: suitsOf(blurred(suitsText())); break;
            case 11: case 12: case 13: case 14: sale(aThing(), about(6), aPrice()); break;
            case 15: case 16: swap(aThing(), aThing()); break;
            case 17: give(aThing()); break;
            case 18: if (once(4)) { wed(about(6), about(6)); } break;
            case 19: if (once(2)) { part(aThing(), once(20) ? -below(9) : below(1 << m.now.suits.size() + below(40) / 39)); } break;
            case 20: case 21: gain(aThing(), about(6), about(2)); break;
            case 22: case 23: agreed(aThing(), about(6)); break;
            case 24: rest(once(5) ? about(61) : 1); break;
            case 25: fewest(); break;
            case 26: best(about(10)); break;
            case 27: case 28: saves(about(6), about(6)); break;
            case 29: due("match()", x.match(), m.match()); break;
            case 30: against(aThing(), about(6), about(6)); break;
            case 31: case 32: pays(aThing(), about(6), aPrice(), 1 + about(9), about(17)); break;
            case 33: if (once(2)) { due("image()", x.image(), m.image()); } break;
            case 34: if (once(2)) { due("restore()", x.restore(), m.restore()); } break;
            case 35: deal(about(4), about(3), once(3) ? 0 : about(12), once(9) ? about(9) : 1 + below(2)); break;
            case 36: sheet(about(4), about(3), once(3) ? about(25) : 12 + below(13)); break;
            case 37: if (once(3)) { drop(about(4)); } break;
            case 38: case 39: item(about(4), about(3), about(24), once(6) ? below(1 << 30) - (1 << 29) : once(5) ? 256 * below(4) + below(3) : below(6)); break;
            default: copy(about(4), about(8), about(4), about(8), about(9)); break;
        }
    }

    /** Small COSTS let rows of SALES be alike. */
    private void aPerson() {
        if (once(2)) {
            person(about(6), 1, below(3));
        } else {
            person(about(6), once(3) ? 0 : about(2), about(once(3) ? 1000 : 100));
        }
    }

    private void person(int a, int b, int c) {
        due("person(" + a + ", " + b + ", " + c + ")", x.person(a, b, c), m.person(a, b, c));
    }

    private void rule(int a, int b) {
        due("rule(" + a + ", " + b + ")", x.rule(a, b), m.rule(a, b));
    }

    private void thing(int a) {
        due("thing(" + a + ")", x.thing(a), m.thing(a));
    }

    private void worth(int a, int b, int c) {
        due("worth(" + a + ", " + b + ", " + c + ")", x.worth(a, b, c), m.worth(a, b, c));
    }

    private void suit(int a, int b) {
        due("suit(" + a + ", " + b + ")", x.suit(a, b), m.suit(a, b));
    }

    private void type(long w, int n) {
        due("type(" + w + ", " + n + ")", x.type(w, n), m.type(w, n));
    }

    private void sale(int a, int b, int c) {
        due("sale(" + a + ", " + b + ", " + c + ")", x.sale(a, b, c), m.sale(a, b, c));
    }

    private void swap(int a, int b) {
        due("swap(" + a + ", " + b + ")", x.swap(a, b), m.swap(a, b));
    }

    private void give(int a) {
        due("give(" + a + ")", x.give(a), m.give(a));
    }

    private void wed(int a, int b) {
        due("wed(" + a + ", " + b + ")", x.wed(a, b), m.wed(a, b));
    }

    private void part(int a, int b) {
        due("part(" + a + ", " + b + ")", x.part(a, b), m.part(a, b));
    }

    private void gain(int a, int b, int c) {
        due("gain(" + a + ", " + b + ", " + c + ")", x.gain(a, b, c), m.gain(a, b, c));
    }

    private void agreed(int a, int b) {
        due("agreed(" + a + ", " + b + ")", x.agreed(a, b), m.agreed(a, b));
    }

    private void rest(int n) {
        due("rest(" + n + ")", x.rest(n), m.rest(n));
    }

    /** The model's search is dear: of wide villages only some are looked at. */
    private void fewest() {
        if (m.now.things.size() > 4 && !once(12)) {
            return;
        }
        int[] row = m.fewestRow();
        due("fewest(-1)", x.fewest(-1), row == null ? -4 : row.length);
        for (int i = 0; i < 3; i++) {
            due("fewest(" + i + ")", x.fewest(i), row == null || i >= row.length ? -4 : row[i]);
        }
        int odd = once(2) ? -2 - below(3) : 3 + below(3);
        due("fewest(" + odd + ")", x.fewest(odd), -1);
    }

    private void best(int years) {
        int i = below(3) == 0 ? about(2) : -1 - below(2);
        if (m.now.things.size() <= 4 || once(3)) {
            due("best(" + years + ", " + i + ")", x.best(years, i), m.best(years, i));
        }
    }

    private void saves(int a, int b) {
        due("saves(" + a + ", " + b + ")", x.saves(a, b), m.saves(a, b));
    }

    private void against(int a, int b, int c) {
        due("against(" + a + ", " + b + ", " + c + ")", x.against(a, b, c), m.against(a, b, c));
    }

    private void pays(int a, int b, int c, int d, int e) {
        due("pays(" + a + ", " + b + ", " + c + ", " + d + ", " + e + ")", x.pays(a, b, c, d, e), m.pays(a, b, c, d, e));
    }

    private void deal(int a, int b, int c, int d) {
        due("deal(" + a + ", " + b + ", " + c + ", " + d + ")", x.deal(a, b, c, d), m.deal(a, b, c, d));
    }

    private void sheet(int a, int b, int c) {
        due("sheet(" + a + ", " + b + ", " + c + ")", x.sheet(a, b, c), m.sheet(a, b, c));
    }

    private void drop(int a) {
        due("drop(" + a + ")", x.drop(a), m.drop(a));
    }

    private void item(int a, int b, int c, int d) {
        due("item(" + a + ", " + b + ", " + c + ", " + d + ")", x.item(a, b, c, d), m.item(a, b, c, d));
    }

    private void copy(int a, int b, int c, int d, int e) {
        due("copy(" + a + ", " + b + ", " + c + ", " + d + ", " + e + ")", x.copy(a, b, c, d, e), m.copy(a, b, c, d, e));
    }

    /** Whether all answers of a run were the same. */
    private boolean run(int number, PrintStream out) {
        x = new QuarrelSales();
        m = new Model();
        if (!once(5)) {
            villageOf(villageText());
            suitsOf(suitsText());
        }
        for (int step = 0; calls + DEAREST_STEP + ALL_TOLD <= CALLS; step++) {
            callOne();
            if (once(6)) {
                toldSome();
            }
            if (got != want) {
                out.println("run " + number + ", step " + step + ": " + call + " answered " + got + ", due is " + want);
                return false;
            }
        }
        toldAll();
        if (got != want) {
            out.println("run " + number + ", at its end: " + call + " answered " + got + ", due is " + want);
        }
        return got == want;
    }

    public static void main(String[] args) {
        int runs = args.length > 0 ? Integer.parseInt(args[0]) : RUNS;
        int from = args.length > 1 ? Integer.parseInt(args[1]) : 0;
        int wrong = 0;
        for (int k = from; k < from + runs; k++) {
            wrong += new ModelTest(k).run(k, System.out) ? 0 : 1;
        }
        System.out.println(runs + " runs, " + wrong + " with a wrong answer");
        if (wrong != 0) {
            System.exit(1);
        }
    }
}
