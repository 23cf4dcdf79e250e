/**
 * A village where what is sold goes with the suits about it, and the buyer stands in them as the
 * seller did. The document DOC.md numbers what each call promises; its words stand here in capitals.
 *
 * Every row is made in a constructor and used again: no call makes an object.
 */
public final class QuarrelSales {
    public static final int BAD = -1, NOT = -2, FULL = -3, NONE = -4, NULL = -11, CAST = -12, INDEX = -13, SIZE = -14;

    private static final int PEOPLE = 6;
    private static final int PARISH = 6;
    private static final int THINGS = 8;
    private static final int SUITS = 12;
    private static final int FIRST_PERSON = 10;
    private static final int MOST_PRICE = 999;
    private static final int MOST_PURSE = 9999;
    private static final int MOST_WORTH = 99;
    private static final int MOST_COST = 99;
    private static final int MOST_SIGNS = 80;
    private static final int MOST_TYPED = 8;
    private static final int SHEETS = 4;
    private static final int MOST_ITEMS = 24;
    private static final int LANES = 3;
    private static final int MOST_DEALS = 8;
    private static final int MOST_RESTS = 60;
    private static final int MOST_YEARS = 9;
    private static final int FEWEST_SALES = 3;
    private static final int BEST_SALES = 2;

    /** What a refusal is less by, where a told thing may itself be below 0. */
    private static final int LESS = 100000;

    private final Village now = new Village();
    private final Village kept = new Village();
    private boolean isKept = false;
    private final Court trial = new Court();
    private final Search search = new Search();
    private final Tape tape = new Tape();
    private final Sheet[] sheets = new Sheet[SHEETS];

    public QuarrelSales() {
        for (int i = 0; i < sheets.length; i++) {
            sheets[i] = new Sheet();
        }
    }

    // ---- 1 people, things, suits

    public int person(int person, int what, int v) {
        if (!isPerson(person)) {
            return BAD;
        }
        if (what == 0 && isWithin(v, MOST_PRICE)) {
            return put(now.purses, person, v);
        }
        if (what == 1 && isWithin(v, MOST_COST)) {
            return put(now.costs, person, v);
        }
        return BAD;
    }

    public int rule(int what, int v) {
        if (!isWithin(what, 1) || !isWithin(v, 1)) {
            return BAD;
        }
        int was = put(now.court.laws, what, v);
        now.court.settle();
        return was;
    }

    public int thing(int hand) {
        if (!isWithin(hand, PARISH)) {
            return BAD;
        }
        if (now.court.things >= THINGS) {
            return FULL;
        }
        return now.addThing(hand);
    }

    public int worth(int thing, int person, int v) {
        if (!isThing(thing) || !isPerson(person) || !isWithin(v, MOST_WORTH)) {
            return BAD;
        }
        return put(now.worths, thing * PEOPLE + person, v);
    }

    public int suit(int a, int b) {
        if (!isSide(a) || !isSide(b) || a == b) {
            return BAD;
        }
        if (now.court.suits >= SUITS) {
            return FULL;
        }
        return now.court.addSuit(a, b);
    }

    public int told(int suit, int what) {
        Court court = now.court;
        if (suit < 0 || suit >= court.suits) {
            return BAD;
        }
        switch (what) {
            case 0: return court.firsts[suit];
            case 1: return court.seconds[suit];
            case 2: return court.standing(court.firsts[suit]);
            case 3: return court.standing(court.seconds[suit]);
            case 4: return court.isOver(suit) ? 1 : 0;
            default: return BAD;
        }
    }

    public int hand(int thing) {
        return isThing(thing) ? now.court.hands[thing] : BAD;
    }

    public int purse(int person) {
        return isPerson(person) ? now.purses[person] : BAD;
    }

    public int value(int person) {
        return isPerson(person) ? now.valueTo(person, now.court) : BAD - LESS;
    }

    public int type(long w, int n) {
        if (n < 1 || n > MOST_TYPED || !Tape.isPlain(w, n)) {
            return BAD;
        }
        if (tape.length + n > MOST_SIGNS) {
            return FULL;
        }
        tape.add(w, n);
        return tape.length;
    }

    public int village() {
        int found = tape.readThings();
        tape.length = 0;
        if (found > 0) {
            now.takeThings(tape.found, found);
        }
        return found;
    }

    public int suits() {
        int found = tape.readSuits(now.court.things);
        tape.length = 0;
        if (found > SUITS - now.court.suits) {
            return FULL;
        }
        for (int k = 0; k < found; k++) {
            now.court.addSuit(tape.found[2 * k], tape.found[2 * k + 1]);
        }
        return found;
    }

    public int count(int what) {
        switch (what) {
            case 0: return now.court.things;
            case 1: return now.court.suits;
            case 2: return Integer.bitCount(now.court.overs);
            case 3: return now.court.costOfAll(now.costs);
            case 4: return now.sold;
            default: return BAD;
        }
    }

    // ---- 2 sales

    public int sale(int thing, int to, int price) {
        if (!isThing(thing) || !isPerson(to) || !isWithin(price, MOST_PRICE)) {
            return BAD;
        }
        if (now.court.hands[thing] == to || now.purses[to] < price) {
            return NOT;
        }
        return now.sell(thing, to, price);
    }

    public int swap(int one, int other) {
        if (!isThing(one) || !isThing(other)) {
            return BAD;
        }
        if (now.court.hands[one] == now.court.hands[other]) {
            return NOT;
        }
        now.sold += 2;
        return now.court.exchange(one, other);
    }

    public int give(int thing) {
        if (!isThing(thing)) {
            return BAD;
        }
        if (now.court.hands[thing] == PARISH) {
            return NOT;
        }
        now.sold++;
        return now.court.move(thing, PARISH);
    }

    public int wed(int a, int b) {
        if (!isPerson(a) || !isPerson(b) || a == b) {
            return BAD;
        }
        now.purses[a] = Math.min(MOST_PURSE, now.purses[a] + now.purses[b]);
        now.purses[b] = 0;
        return now.court.marry(a, b);
    }

    public int part(int thing, int suits) {
        if (!isThing(thing) || suits < 0 || suits >= 1 << now.court.suits) {
            return BAD;
        }
        if (now.court.things >= THINGS) {
            return FULL;
        }
        return now.split(thing, suits);
    }

    public int gain(int thing, int to, int what) {
        if (!isThing(thing) || !isPerson(to) || !isWithin(what, 1)) {
            return BAD - LESS;
        }
        int seller = now.court.hands[thing];
        if (seller == to) {
            return NOT - LESS;
        }
        trySale(thing, to);
        return gainOf(what == 0 ? seller : to);
    }

    public int agreed(int thing, int to) {
        if (!isThing(thing) || !isPerson(to)) {
            return BAD;
        }
        int seller = now.court.hands[thing];
        if (seller == PARISH || seller == to) {
            return NOT;
        }
        trySale(thing, to);
        int price = Math.max(0, 1 - gainOf(seller));
        boolean isAgreed = price <= MOST_PRICE && price <= now.purses[to] && gainOf(to) > price;
        return isAgreed ? price : NONE;
    }

    public int rest(int n) {
        if (n < 1 || n > MOST_RESTS) {
            return BAD;
        }
        int made = 0;
        while (made < n && makeFirstAgreed()) {
            made++;
        }
        return made;
    }

    // ---- 3 what hangs together, what is best

    public int group(int thing) {
        if (thing == -1) {
            return now.court.countGroups();
        }
        return isThing(thing) ? now.court.groupOf(thing) : BAD;
    }

    public int never() {
        return now.court.neverEnding();
    }

    public int fewest(int i) {
        if (i < -1 || i >= FEWEST_SALES) {
            return BAD;
        }
        int sales = search.seekFewest(now.court);
        if (i == -1) {
            return sales;
        }
        return i < sales ? search.chosen[i] : NONE;
    }

    public int best(int years, int i) {
        if (years < 1 || years > MOST_YEARS || i < -2 || i >= BEST_SALES) {
            return BAD;
        }
        search.seekBest(now.court, now.costs, years);
        if (i == -2) {
            return search.least;
        }
        if (i == -1) {
            return search.sales;
        }
        return i < search.sales ? search.chosen[i] : NONE;
    }

    public int saves(int a, int b) {
        if (!isPerson(a) || !isPerson(b) || a == b) {
            return BAD - LESS;
        }
        trial.become(now.court);
        trial.marry(a, b);
        return now.court.costOfAll(now.costs) - trial.costOfAll(now.costs);
    }

    public int match() {
        int pair = 1;
        int most = saves(0, 1);
        for (int a = 0; a < PEOPLE; a++) {
            for (int b = a + 1; b < PEOPLE; b++) {
                int saved = saves(a, b);
                if (saved > most) {
                    most = saved;
                    pair = 10 * a + b;
                }
            }
        }
        return pair;
    }

    public int against(int thing, int to, int who) {
        if (!isThing(thing) || !isPerson(to) || !isPerson(who)) {
            return BAD - LESS;
        }
        int seller = now.court.hands[thing];
        if (who == seller || who == to) {
            return BAD - LESS;
        }
        if (seller == to) {
            return NOT - LESS;
        }
        trySale(thing, to);
        return -gainOf(who);
    }

    public int pays(int thing, int to, int price, int y, int c) {
        if (!isThing(thing) || !isPerson(to) || !isWithin(price, MOST_PRICE)) {
            return BAD - LESS;
        }
        if (y < 1 || y > MOST_YEARS || !isWithin(c, 16)) {
            return BAD - LESS;
        }
        if (now.court.hands[thing] == to) {
            return NOT - LESS;
        }
        trySale(thing, to);
        int more = trial.countStood(to) - now.court.countStood(to);
        int costPerSuit = y * now.costs[to];
        int worthIt = now.worths[thing * PEOPLE + to] - price;
        return 16 * worthIt - 16 * costPerSuit * more - c * costPerSuit;
    }

    public int image() {
        kept.become(now);
        isKept = true;
        return 1;
    }

    public int restore() {
        if (!isKept) {
            return NONE;
        }
        now.become(kept);
        return 1;
    }

    // ---- 4 sheets 0 .. 3: nothing (at first), or a row of a LANE: 0 bytes, 1 shorts, 2 ints (all with a sign), of 0 to 24 items.

    public int deal(int sheet, int lane, int i, int n) {
        if (!isSheet(sheet) || !isLane(lane) || n < 1 || n > MOST_DEALS) {
            return BAD;
        }
        Sheet row = sheets[sheet];
        int refused = row.refuses(lane);
        if (refused != 0) {
            return refused;
        }
        if (!row.holds(i, 3 * n)) {
            return INDEX;
        }
        int made = 0;
        while (made < n && dealOne(row, i + 3 * made)) {
            made++;
        }
        return made;
    }

    public int sheet(int sheet, int lane, int n) {
        if (!isSheet(sheet) || !isLane(lane) || n > MOST_ITEMS) {
            return BAD;
        }
        if (n < 0) {
            return SIZE;
        }
        sheets[sheet].begin(lane, n);
        return n;
    }

    public int drop(int sheet) {
        if (!isSheet(sheet)) {
            return BAD;
        }
        Sheet row = sheets[sheet];
        if (row.isNothing) {
            return NULL;
        }
        row.isNothing = true;
        return row.length;
    }

    public int item(int sheet, int lane, int i, int v) {
        if (!isSheet(sheet) || !isLane(lane)) {
            return BAD;
        }
        Sheet row = sheets[sheet];
        int refused = row.refuses(lane);
        if (refused != 0) {
            return refused;
        }
        if (!row.holds(i, 1)) {
            return INDEX;
        }
        row.items[i] = Sheet.lowestBits(lane, v);
        return 1;
    }

    public int copy(int from, int i, int to, int j, int n) {
        if (!isSheet(from) || !isSheet(to)) {
            return BAD;
        }
        Sheet source = sheets[from];
        Sheet target = sheets[to];
        if (source.isNothing || target.isNothing) {
            return NULL;
        }
        if (source.lane != target.lane) {
            return CAST;
        }
        if (!source.holds(i, n) || !target.holds(j, n)) {
            return INDEX;
        }
        System.arraycopy(source.items, i, target.items, j, n);
        return n;
    }

    // ---- what the calls share

    private static boolean isWithin(int v, int most) {
        return v >= 0 && v <= most;
    }

    private static boolean isPerson(int person) {
        return person >= 0 && person < PEOPLE;
    }

    private static boolean isSheet(int sheet) {
        return sheet >= 0 && sheet < SHEETS;
    }

    private static boolean isLane(int lane) {
        return lane >= 0 && lane < LANES;
    }

    private boolean isThing(int thing) {
        return thing >= 0 && thing < now.court.things;
    }

    private boolean isSide(int side) {
        return isThing(side) || isPerson(side - FIRST_PERSON);
    }

    private static int put(int[] row, int i, int v) {
        if (i < 0 || i >= row.length) {
            return BAD;
        }
        int was = row[i];
        row[i] = v;
        return was;
    }

    private void trySale(int thing, int to) {
        trial.become(now.court);
        trial.move(thing, to);
    }

    /** What one gains by the tried SALE without its price: THE PARISH gains nothing. */
    private int gainOf(int hand) {
        return hand == PARISH ? 0 : now.valueTo(hand, trial) - now.valueTo(hand, now.court);
    }

    private boolean makeFirstAgreed() {
        for (int thing = 0; thing < now.court.things; thing++) {
            for (int to = 0; to < PEOPLE; to++) {
                int price = agreed(thing, to);
                if (price >= 0) {
                    now.sell(thing, to, price);
                    return true;
                }
            }
        }
        return false;
    }

    private boolean dealOne(Sheet row, int i) {
        return row.holds(i, 3) && sale(row.items[i], row.items[i + 1], row.items[i + 2]) >= 0;
    }

    /** Who holds what, and the SUITS: all that a SALE for nothing changes, so a copy of this alone does to try one. */
    private static final class Court {
        final int[] laws = new int[2];
        final int[] hands = new int[THINGS];
        final int[] firsts = new int[SUITS];
        final int[] seconds = new int[SUITS];
        int things = 0;
        int suits = 0;
        int overs = 0;

        void become(Court other) {
            System.arraycopy(other.laws, 0, laws, 0, laws.length);
            System.arraycopy(other.hands, 0, hands, 0, hands.length);
            System.arraycopy(other.firsts, 0, firsts, 0, firsts.length);
            System.arraycopy(other.seconds, 0, seconds, 0, seconds.length);
            things = other.things;
            suits = other.suits;
            overs = other.overs;
        }

        boolean isOver(int suit) {
            return (overs >> suit & 1) == 1;
        }

        int standing(int side) {
            return side >= FIRST_PERSON ? side - FIRST_PERSON : hands[side];
        }

        int addSuit(int a, int b) {
            int suit = suits;
            firsts[suit] = a;
            seconds[suit] = b;
            suits++;
            settle();
            return suit;
        }

        /**
         * How many SUITS come to be OVER. THE PARISH can stand on a SIDE only by a THING, so for
         * LAW 1 it is enough that it stands there.
         */
        int settle() {
            int came = 0;
            for (int suit = 0; suit < suits; suit++) {
                int one = standing(firsts[suit]);
                int other = standing(seconds[suit]);
                boolean ends = one == PARISH || other == PARISH ? laws[1] == 1 : one == other;
                if (ends && !isOver(suit)) {
                    overs |= 1 << suit;
                    came++;
                }
            }
            return came;
        }

        int move(int thing, int to) {
            leaveSides(thing);
            hands[thing] = to;
            return settle();
        }

        /** Both change HANDS ahead of the settling: a SUIT between the two goes on. */
        int exchange(int one, int other) {
            leaveSides(one);
            leaveSides(other);
            int hand = hands[one];
            hands[one] = hands[other];
            hands[other] = hand;
            return settle();
        }

        private void leaveSides(int thing) {
            int seller = hands[thing];
            if (laws[0] == 0 || seller == PARISH) {
                return;
            }
            for (int suit = 0; suit < suits; suit++) {
                if (!isOver(suit)) {
                    changeSides(suit, thing, FIRST_PERSON + seller);
                }
            }
        }

        private void changeSides(int suit, int side, int by) {
            if (firsts[suit] == side) {
                firsts[suit] = by;
            }
            if (seconds[suit] == side) {
                seconds[suit] = by;
            }
        }

        int marry(int a, int b) {
            for (int thing = 0; thing < things; thing++) {
                if (hands[thing] == b) {
                    hands[thing] = a;
                }
            }
            for (int suit = 0; suit < suits; suit++) {
                changeSides(suit, FIRST_PERSON + b, FIRST_PERSON + a);
            }
            return settle();
        }

        int addThing(int hand) {
            int thing = things;
            hands[thing] = hand;
            things++;
            return thing;
        }

        int split(int thing, int set) {
            int fresh = addThing(hands[thing]);
            for (int suit = 0; suit < suits; suit++) {
                if ((set >> suit & 1) == 1 && !isOver(suit)) {
                    changeSides(suit, thing, fresh);
                }
            }
            settle();
            return fresh;
        }

        /** In how many SUITS not OVER one STANDS. */
        int countStood(int person) {
            int stood = 0;
            for (int suit = 0; suit < suits; suit++) {
                if (!isOver(suit) && (standing(firsts[suit]) == person || standing(seconds[suit]) == person)) {
                    stood++;
                }
            }
            return stood;
        }

        /** One who STOOD on both SIDES would pay once, but then the SUIT is OVER. */
        int costOfAll(int[] costs) {
            int sum = 0;
            for (int suit = 0; suit < suits; suit++) {
                if (!isOver(suit)) {
                    sum += costTo(standing(firsts[suit]), costs) + costTo(standing(seconds[suit]), costs);
                }
            }
            return sum;
        }

        private static int costTo(int hand, int[] costs) {
            return hand == PARISH ? 0 : costs[hand];
        }

        int neverEnding() {
            int set = 0;
            for (int suit = 0; suit < suits; suit++) {
                if (!isOver(suit) && firsts[suit] >= FIRST_PERSON && seconds[suit] >= FIRST_PERSON) {
                    set |= 1 << suit;
                }
            }
            return set;
        }

        int sidesOf(int suit) {
            return 1 << firsts[suit] | 1 << seconds[suit];
        }

        int groupOf(int side) {
            int group = 1 << side;
            // a way from one member to another takes each SUIT once at most
            for (int round = 0; round < suits; round++) {
                int wider = widen(group);
                if (wider == group) {
                    return group;
                }
                group = wider;
            }
            return group;
        }

        private int widen(int group) {
            for (int suit = 0; suit < suits; suit++) {
                if (!isOver(suit) && (group & sidesOf(suit)) != 0) {
                    group |= sidesOf(suit);
                }
            }
            return group;
        }

        int countGroups() {
            int groups = 0;
            int seen = 0;
            for (int suit = 0; suit < suits; suit++) {
                if (!isOver(suit) && (seen & sidesOf(suit)) == 0) {
                    seen |= groupOf(firsts[suit]);
                    groups++;
                }
            }
            return groups;
        }
    }

    /** All that an IMAGE keeps. */
    private static final class Village {
        final Court court = new Court();
        final int[] purses = new int[PEOPLE];
        final int[] costs = new int[PEOPLE];
        final int[] worths = new int[THINGS * PEOPLE];
        int sold = 0;

        Village() {
            for (int person = 0; person < PEOPLE; person++) {
                purses[person] = 50;
                costs[person] = 3;
            }
        }

        void become(Village other) {
            court.become(other.court);
            System.arraycopy(other.purses, 0, purses, 0, purses.length);
            System.arraycopy(other.costs, 0, costs, 0, costs.length);
            System.arraycopy(other.worths, 0, worths, 0, worths.length);
            sold = other.sold;
        }

        int addThing(int hand) {
            int thing = court.addThing(hand);
            for (int person = 0; person < PEOPLE; person++) {
                worths[thing * PEOPLE + person] = 5;
            }
            return thing;
        }

        /** Of each THING the HAND and the six WORTHS stand in the row that the TAPE found. */
        void takeThings(int[] found, int n) {
            court.things = 0;
            court.suits = 0;
            court.overs = 0;
            for (int thing = 0; thing < n; thing++) {
                court.addThing(found[thing * Tape.PER_THING]);
                System.arraycopy(found, thing * Tape.PER_THING + 1, worths, thing * PEOPLE, PEOPLE);
            }
        }

        int sell(int thing, int to, int price) {
            int seller = court.hands[thing];
            purses[to] -= price;
            if (seller != PARISH) {
                purses[seller] = Math.min(MOST_PURSE, purses[seller] + price);
            }
            sold++;
            return court.move(thing, to);
        }

        int split(int thing, int set) {
            int fresh = court.split(thing, set);
            for (int person = 0; person < PEOPLE; person++) {
                int whole = worths[thing * PEOPLE + person];
                int half = whole / 2;
                worths[fresh * PEOPLE + person] = half;
                worths[thing * PEOPLE + person] = whole - half;
            }
            return fresh;
        }

        /** VALUE to one, were HANDS and SUITS as in that court. */
        int valueTo(int person, Court told) {
            int sum = -costs[person] * told.countStood(person);
            for (int thing = 0; thing < told.things; thing++) {
                if (told.hands[thing] == person) {
                    sum += worths[thing * PEOPLE + person];
                }
            }
            return sum;
        }
    }

    /**
     * Rows of SALES for nothing, looked through in their order. A THING that is a SIDE of no SUIT
     * that may still end is passed over: its SALE changes no SUIT, so the same row without it is
     * as good and shorter.
     */
    private static final class Search {
        private final Court[] stages = new Court[FEWEST_SALES + 1];
        private final int[] row = new int[FEWEST_SALES];
        final int[] chosen = new int[FEWEST_SALES];
        int sales = 0;
        int least = 0;

        Search() {
            for (int i = 0; i < stages.length; i++) {
                stages[i] = new Court();
            }
        }

        /** How many SALES, the chosen ones in the row; NONE if three do not do. */
        int seekFewest(Court court) {
            stages[0].become(court);
            int spared = court.neverEnding();
            for (int n = 0; n <= FEWEST_SALES; n++) {
                if (endsAll(this, 0, n, spared)) {
                    choose(n);
                    return n;
                }
            }
            return NONE;
        }

        private static boolean endsAll(Search search, int stage, int left, int spared) {
            if (left == 0) {
                return (search.stages[stage].overs | spared) == (1 << search.stages[stage].suits) - 1;
            }
            int useful = search.usefulThings(stage, left, spared);
            for (int thing = 0; thing < THINGS; thing++) {
                for (int to = 0; to < PEOPLE && (useful >> thing & 1) == 1; to++) {
                    if (search.step(stage, thing, to) && endsAll(search, stage + 1, left - 1, spared)) {
                        return true;
                    }
                }
            }
            return false;
        }

        /**
         * The THINGS whose SALE can help: none where a SUIT has become one between two of PEOPLE by
         * LAW 0, and as the last SALE only a SIDE of every SUIT left.
         */
        private int usefulThings(int stage, int left, int spared) {
            Court court = stages[stage];
            int any = 0;
            int every = -1;
            for (int suit = 0; suit < court.suits; suit++) {
                if (!court.isOver(suit) && (spared >> suit & 1) == 0) {
                    int sides = court.sidesOf(suit) & (1 << THINGS) - 1;
                    if (sides == 0) {
                        return 0;
                    }
                    any |= sides;
                    every &= sides;
                }
            }
            return left == 1 ? any & every : any;
        }

        /** Makes the SALE in the next stage; false if he has it already. */
        private boolean step(int stage, int thing, int to) {
            Court court = stages[stage];
            if (court.hands[thing] == to) {
                return false;
            }
            stages[stage + 1].become(court);
            stages[stage + 1].move(thing, to);
            row[stage] = 10 * thing + to;
            return true;
        }

        void seekBest(Court court, int[] costs, int years) {
            stages[0].become(court);
            least = court.costOfAll(costs) * years;
            sales = 0;
            weighRows(this, 0, costs, years);
        }

        private static void weighRows(Search search, int stage, int[] costs, int years) {
            if (stage >= BEST_SALES) {
                return;
            }
            for (int thing = 0; thing < THINGS; thing++) {
                for (int to = 0; to < PEOPLE && search.isSide(stage, thing); to++) {
                    if (search.step(stage, thing, to)) {
                        search.weigh(stage + 1, costs, years);
                        weighRows(search, stage + 1, costs, years);
                    }
                }
            }
        }

        private boolean isSide(int stage, int thing) {
            Court court = stages[stage];
            for (int suit = 0; suit < court.suits; suit++) {
                if (!court.isOver(suit) && (court.sidesOf(suit) >> thing & 1) == 1) {
                    return true;
                }
            }
            return false;
        }

        /** A row that comes later is chosen only if it is better, or as good and shorter. */
        private void weigh(int made, int[] costs, int years) {
            int sum = stages[made].costOfAll(costs) * years + made;
            if (sum < least || sum == least && made < sales) {
                least = sum;
                choose(made);
            }
        }

        private void choose(int n) {
            sales = n;
            System.arraycopy(row, 0, chosen, 0, n);
        }
    }

    /** THE TAPE, and what was last found on it. */
    private static final class Tape {
        static final int PER_THING = 1 + PEOPLE;
        private static final int END = -1;
        private static final int BLANK = 32;

        private final int[] signs = new int[MOST_SIGNS];
        private int at = 0;
        int length = 0;
        final int[] found = new int[THINGS * PER_THING];

        private static int byteOf(long w, int k) {
            return (int) (w >> 8 * k) & 255;
        }

        static boolean isPlain(long w, int n) {
            for (int k = 0; k < n; k++) {
                int sign = byteOf(w, k);
                if (sign < 32 || sign > 126) {
                    return false;
                }
            }
            return true;
        }

        void add(long w, int n) {
            for (int k = n - 1; k >= 0 && length < signs.length; k--) {
                signs[length] = byteOf(w, k);
                length++;
            }
        }

        private int nextSign() {
            while (at < length && signs[at] == BLANK) {
                at++;
            }
            return at < length ? signs[at] : END;
        }

        private int fault() {
            return -20 - at;
        }

        /** How many THINGS a VILLAGE tells, or a FAULT. */
        int readThings() {
            at = 0;
            int n = 0;
            while (n < THINGS && readThing(n * PER_THING)) {
                n++;
                int sign = nextSign();
                if (sign == END) {
                    return n;
                }
                if (sign != ';' || n == THINGS) {
                    return fault();
                }
                at++;
            }
            return fault();
        }

        private boolean readThing(int place) {
            int sign = nextSign();
            if (sign == '-') {
                found[place] = PARISH;
            } else if (sign >= '0' && sign < '0' + PEOPLE) {
                found[place] = sign - '0';
            } else {
                return false;
            }
            at++;
            for (int k = 1; k < PER_THING; k++) {
                sign = nextSign();
                if (sign < '0' || sign > '9') {
                    return false;
                }
                found[place + k] = sign - '0';
                at++;
            }
            return true;
        }

        /** How many SUITS the text tells, or a FAULT. */
        int readSuits(int things) {
            at = 0;
            int n = 0;
            while (n < SUITS && readSuit(2 * n, things)) {
                n++;
                int sign = nextSign();
                if (sign == END) {
                    return n;
                }
                if (sign != ',' || n == SUITS) {
                    return fault();
                }
                at++;
            }
            return fault();
        }

        private boolean readSuit(int place, int things) {
            int one = sideOf(nextSign(), things);
            if (one < 0) {
                return false;
            }
            at++;
            int other = sideOf(nextSign(), things);
            if (other < 0 || other == one) {
                return false;
            }
            at++;
            found[place] = one;
            found[place + 1] = other;
            return true;
        }

        private static int sideOf(int sign, int things) {
            if (sign >= 'a' && sign < 'a' + things) {
                return sign - 'a';
            }
            if (sign >= '0' && sign < '0' + PEOPLE) {
                return FIRST_PERSON + sign - '0';
            }
            return END;
        }
    }

    /** One SHEET: its row is as long as a row can be, and only the first items of it are there. */
    private static final class Sheet {
        final int[] items = new int[MOST_ITEMS];
        boolean isNothing = true;
        int lane = 0;
        int length = 0;

        void begin(int newLane, int n) {
            isNothing = false;
            lane = newLane;
            length = n;
            for (int i = 0; i < items.length; i++) {
                items[i] = 0;
            }
        }

        /** NULL or CAST where it can't be taken as a row of that LANE, else 0. */
        int refuses(int asLane) {
            if (isNothing) {
                return NULL;
            }
            return lane == asLane ? 0 : CAST;
        }

        /** Whether n items from i on are there; where none is taken, i may be the end itself. */
        boolean holds(int i, int n) {
            return i >= 0 && n >= 0 && i <= length - n;
        }

        static int lowestBits(int asLane, int v) {
            if (asLane == 0) {
                return (byte) v;
            }
            return asLane == 1 ? (short) v : v;
        }
    }
}
