/** What the tests of single calls share: texts typed, all that an object tells of itself, how many answers were wrong. */
abstract class Bench {
    interface Call {
        int on(QuarrelSales x);
    }

    interface Make {
        QuarrelSales made();
    }

    static final int BAD = QuarrelSales.BAD;
    static final int NOT = QuarrelSales.NOT;
    static final int FULL = QuarrelSales.FULL;
    static final int NONE = QuarrelSales.NONE;
    static final int NULL = QuarrelSales.NULL;
    static final int CAST = QuarrelSales.CAST;
    static final int INDEX = QuarrelSales.INDEX;
    static final int SIZE = QuarrelSales.SIZE;
    /** The refusals of calls whose told thing may itself be below 0. */
    static final int BAD_SO = -100001;
    static final int NOT_SO = -100002;

    static String promise = "";
    private static int wrong = 0;
    private static int looked = 0;

    static void due(String call, int got, int want) {
        looked++;
        if (got != want) {
            wrong++;
            System.out.println(promise + ": " + call + " answered " + got + ", due is " + want);
        }
    }

    static void same(String call, String got, String want) {
        looked++;
        if (!got.equals(want)) {
            wrong++;
            System.out.println(promise + ": " + call + " left " + got + ", due is " + want);
        }
    }

    static void hold(String what, boolean holds) {
        looked++;
        if (!holds) {
            wrong++;
            System.out.println(promise + ": does not hold: " + what);
        }
    }

    static void end() {
        System.out.println(looked + " answers looked at, " + wrong + " not as due");
        if (wrong != 0) {
            System.exit(1);
        }
    }

    static long word(String piece) {
        long w = 0;
        for (int k = 0; k < piece.length(); k++) {
            w = w << 8 | piece.charAt(k);
        }
        return w;
    }

    /** Types a text of any length, eight bytes at a time. */
    static void type(QuarrelSales x, String text) {
        for (int i = 0; i < text.length(); i += 8) {
            String piece = text.substring(i, Math.min(text.length(), i + 8));
            if (x.type(word(piece), piece.length()) < 0) {
                throw new IllegalStateException("not typed: " + text);
            }
        }
    }

    static int village(QuarrelSales x, String text) {
        type(x, text);
        return x.village();
    }

    static int suits(QuarrelSales x, String text) {
        type(x, text);
        return x.suits();
    }

    static QuarrelSales with(String things, String suits) {
        QuarrelSales x = new QuarrelSales();
        if (village(x, things) < 1 || !suits.isEmpty() && suits(x, suits) < 1) {
            throw new IllegalStateException("not a village: " + things + " " + suits);
        }
        return x;
    }

    /** Here some of each is there, and each call can be taken: 4 THINGS, 5 SUITS, 3 SHEETS, an IMAGE, a TAPE. */
    static QuarrelSales busy() {
        QuarrelSales x = with("0123456;1987654;-555555;2444444", "ab,a2,c3,01");
        x.image();
        x.person(0, 0, 999);
        x.person(1, 0, 400);
        x.person(2, 1, 7);
        x.sale(3, 0, 5);
        x.suit(3, 10);
        x.worth(1, 4, 99);
        put(x, 0, 0, 3, 1, 2, 0);
        put(x, 1, 1, 1, 2, 300);
        put(x, 2, 2, 2, 4, 1, 7, 9);
        type(x, "b4");
        return x;
    }

    static void put(QuarrelSales x, int sheet, int lane, int... items) {
        x.sheet(sheet, lane, items.length);
        for (int i = 0; i < items.length; i++) {
            due("item", x.item(sheet, lane, i, items[i]), 1);
        }
    }

    /** What the state answers, so that "changes nothing" can be looked at. */
    static String state(QuarrelSales x) {
        StringBuilder s = new StringBuilder();
        tellState(x, s);
        return s.toString();
    }

    private static void tellState(QuarrelSales x, StringBuilder s) {
        for (int w = 0; w < 5; w++) {
            s.append(x.count(w)).append(' ');
        }
        int things = x.count(0);
        for (int t = 0; t < things; t++) {
            s.append(x.hand(t)).append(' ');
        }
        for (int p = 0; p < 6; p++) {
            s.append(x.purse(p)).append(':').append(x.value(p)).append(' ');
        }
        tellSuits(x, s);
    }

    private static void tellSuits(QuarrelSales x, StringBuilder s) {
        int suits = x.count(1);
        for (int q = 0; q < suits; q++) {
            for (int w = 0; w < 5; w++) {
                s.append(x.told(q, w)).append(w == 4 ? ' ' : ',');
            }
        }
    }

    /**
     * All that an object holds, as one text: the state with laws, costs, worths, the IMAGE, THE TAPE,
     * the SHEETS. To ask for it takes up to some 450 calls, and the object is of no other use then.
     */
    static String all(QuarrelSales x) {
        StringBuilder s = new StringBuilder();
        tellState(x, s);
        tellRest(x, s);
        int restored = x.restore();
        s.append("| image ").append(restored).append(' ');
        if (restored == 1) {
            tellState(x, s);
            tellRest(x, s);
        }
        tellTape(x, s);
        tellSheets(x, s);
        return s.toString();
    }

    private static void tellRest(QuarrelSales x, StringBuilder s) {
        s.append("| laws ").append(x.rule(0, 0)).append(x.rule(1, 0)).append(" costs");
        for (int p = 0; p < 6; p++) {
            s.append(' ').append(x.person(p, 1, 0));
        }
        s.append(" worths");
        int things = x.count(0);
        for (int t = 0; t < things; t++) {
            for (int p = 0; p < 6; p++) {
                s.append(' ').append(x.worth(t, p, 0));
            }
        }
    }

    /** What is on THE TAPE shows in the SUITS that it tells, with one more behind it. */
    private static void tellTape(QuarrelSales x, StringBuilder s) {
        s.append("| tape ").append(x.type(word(",01"), 3)).append(' ').append(x.suits()).append(' ');
        tellSuits(x, s);
    }

    private static void tellSheets(QuarrelSales x, StringBuilder s) {
        village(x, "0000000");
        s.append("| sheet 3 of lane ").append(laneOf(x, 3)).append(", so many ").append(x.drop(3));
        for (int k = 0; k < 3; k++) {
            int lane = laneOf(x, k);
            s.append(" sheet ").append(k).append(" of lane ").append(lane).append(':');
            for (int i = 0; i < 24 && lane >= 0 && x.copy(k, i, k, i, 1) == 1; i++) {
                s.append(' ').append(read(x, k, lane, i));
            }
            s.append(" so many ").append(x.drop(k));
        }
    }

    private static int laneOf(QuarrelSales x, int sheet) {
        for (int lane = 0; lane < 3; lane++) {
            if (x.item(sheet, lane, -1, 0) == INDEX) {
                return lane;
            }
        }
        return -1;
    }

    /** An item as the price of a SALE that is dealt: -1 where it is none of 0 .. 999. THING 0 has to be 0's; SHEET 3 is lost. */
    static int read(QuarrelSales x, int sheet, int lane, int i) {
        x.sheet(3, lane, 3);
        x.item(3, lane, 1, 1);
        x.copy(sheet, i, 3, 2, 1);
        x.person(1, 0, 999);
        if (x.deal(3, lane, 0, 1) != 1) {
            return -1;
        }
        x.sale(0, 0, 0);
        return 999 - x.purse(1);
    }
}
