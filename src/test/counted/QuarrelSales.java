/**
 * The face over the class itself, which .ci/run has named Told here: it counts what an object is asked, and
 * refuses a test that asks one more than 512 times, as nothing is promised then.
 */
public final class QuarrelSales {
    public static final int BAD = Told.BAD, NOT = Told.NOT, FULL = Told.FULL, NONE = Told.NONE;
    public static final int NULL = Told.NULL, CAST = Told.CAST, INDEX = Told.INDEX, SIZE = Told.SIZE;
    private static final int MOST_CALLS = 512;

    private final Told told = new Told();
    private int calls = 0;

    public QuarrelSales() {
    }

    private Told asked() {
        calls++;
        if (calls > MOST_CALLS) {
            throw new IllegalStateException("a test asks one object more than " + MOST_CALLS + " times");
        }
        return told;
    }

    public int person(int person, int what, int v) {
        return asked().person(person, what, v);
    }

    public int rule(int what, int v) {
        return asked().rule(what, v);
    }

    public int thing(int hand) {
        return asked().thing(hand);
    }

    public int worth(int thing, int person, int v) {
        return asked().worth(thing, person, v);
    }

    public int suit(int a, int b) {
        return asked().suit(a, b);
    }

    public int told(int suit, int what) {
        return asked().told(suit, what);
    }

    public int hand(int thing) {
        return asked().hand(thing);
    }

    public int purse(int person) {
        return asked().purse(person);
    }

    public int value(int person) {
        return asked().value(person);
    }

    public int type(long w, int n) {
        return asked().type(w, n);
    }

    public int village() {
        return asked().village();
    }

    public int suits() {
        return asked().suits();
    }

    public int count(int what) {
        return asked().count(what);
    }

    public int sale(int thing, int to, int price) {
        return asked().sale(thing, to, price);
    }

    public int swap(int one, int other) {
        return asked().swap(one, other);
    }

    public int give(int thing) {
        return asked().give(thing);
    }

    public int wed(int a, int b) {
        return asked().wed(a, b);
    }

    public int part(int thing, int suits) {
        return asked().part(thing, suits);
    }

    public int gain(int thing, int to, int what) {
        return asked().gain(thing, to, what);
    }

    public int agreed(int thing, int to) {
        return asked().agreed(thing, to);
    }

    public int rest(int n) {
        return asked().rest(n);
    }

    public int group(int thing) {
        return asked().group(thing);
    }

    public int never() {
        return asked().never();
    }

    public int fewest(int i) {
        return asked().fewest(i);
    }

    public int best(int years, int i) {
        return asked().best(years, i);
    }

    public int saves(int a, int b) {
        return asked().saves(a, b);
    }

    public int match() {
        return asked().match();
    }

    public int against(int thing, int to, int who) {
        return asked().against(thing, to, who);
    }

    public int pays(int thing, int to, int price, int y, int c) {
        return asked().pays(thing, to, price, y, c);
    }

    public int image() {
        return asked().image();
    }

    public int restore() {
        return asked().restore();
    }

    public int deal(int sheet, int lane, int i, int n) {
        return asked().deal(sheet, lane, i, n);
    }

    public int sheet(int sheet, int lane, int n) {
        return asked().sheet(sheet, lane, n);
    }

    public int drop(int sheet) {
        return asked().drop(sheet);
    }

    public int item(int sheet, int lane, int i, int v) {
        return asked().item(sheet, lane, i, v);
    }

    public int copy(int from, int i, int to, int j, int n) {
        return asked().copy(from, i, to, j, n);
    }
}
