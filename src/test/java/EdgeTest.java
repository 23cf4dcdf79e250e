/**
 * What is most, least, empty, full or just so: each sentence of DOC.md that names such a case, in its
 * order. What is refused is in RefusalTest.
 */
public final class EdgeTest extends Bench {
    private static final String EIGHT = "0000000;1111111;2222222;3333333;4444444;5555555;-666666;0777777";
    private static final String OF_PARISH = "-555555;-555555;-555555;-555555;-555555;-555555;-555555;-555555";
    private static final String TWELVE = "01,01,01,01,01,01,01,01,01,01,01,01";

    /** PURSES above 999 come by WEDDINGS alone here: 999 each, and what is left. */
    private static void fill(QuarrelSales x, int person, int v) {
        int other = person == 0 ? 1 : 0;
        int kept = x.purse(other);
        x.person(person, 0, Math.min(999, v));
        for (int left = v - 999; left > 0; left -= 999) {
            x.person(other, 0, Math.min(999, left));
            x.wed(person, other);
        }
        x.person(other, 0, kept);
    }

    private static void newObject() {
        promise = "1 nothing there";
        for (int w = 0; w < 5; w++) {
            due("count(" + w + ")", new QuarrelSales().count(w), 0);
        }
        due("group(-1)", new QuarrelSales().group(-1), 0);
        due("never()", new QuarrelSales().never(), 0);
        due("fewest(-1)", new QuarrelSales().fewest(-1), 0);
        due("best(9, -1)", new QuarrelSales().best(9, -1), 0);
        due("best(9, -2)", new QuarrelSales().best(9, -2), 0);
        due("match()", new QuarrelSales().match(), 1);
        due("saves(5, 0)", new QuarrelSales().saves(5, 0), 0);
        due("rest(60)", new QuarrelSales().rest(60), 0);
        due("restore()", new QuarrelSales().restore(), NONE);
        due("type", new QuarrelSales().type('a', 1), 1);
        due("suit", new QuarrelSales().suit(10, 15), 0);
        due("wed(0, 5)", new QuarrelSales().wed(0, 5), 0);
        for (int p = 0; p < 6; p++) {
            QuarrelSales x = new QuarrelSales();
            due("PURSE is 50 at first", x.purse(p), 50);
            due("COST is 3 at first", x.person(p, 1, 0), 3);
            due("VALUE", x.value(p), 0);
            due("sheet", x.drop(p % 4), NULL);
        }
        due("law 0 at first", new QuarrelSales().rule(0, 1), 0);
        due("law 1 at first", new QuarrelSales().rule(1, 1), 0);
        QuarrelSales one = new QuarrelSales();
        QuarrelSales other = new QuarrelSales();
        one.thing(0);
        one.rule(0, 1);
        one.image();
        one.sheet(0, 0, 1);
        one.type('a', 1);
        same("one object is nothing to another", all(other), all(new QuarrelSales()));
    }

    private static void lastCall() {
        promise = "an object is used for at most 512 calls";
        QuarrelSales x = new QuarrelSales();
        x.thing(5);
        for (int k = 0; k < 510; k++) {
            due("sale", x.sale(0, k % 2, 0), 0);
        }
        due("the 512th call", x.count(4), 510);
        x = new QuarrelSales();
        x.thing(0);
        x.thing(1);
        for (int k = 0; k < 509; k++) {
            due("swap", x.swap(0, 1), 0);
        }
        due("the 512th call", x.count(4), 1018);
        x = new QuarrelSales();
        for (int k = 0; k < 256; k++) {
            due("image", x.image(), 1);
            due("restore", x.restore(), 1);
        }
        x = new QuarrelSales();
        for (int k = 0; k < 512; k++) {
            due("type", x.type(0x4141414141414141L, 8), k < 10 ? 8 * k + 8 : FULL);
        }
    }

    private static void persons() {
        promise = "2 PURSE 0 .. 999, COST 0 .. 99";
        QuarrelSales x = with("0999999", "a5");
        due("of 9999", purseOf(9999).person(0, 0, 999), 9999);
        due("of 1000", purseOf(1000).person(0, 0, 0), 1000);
        due("cost", x.person(5, 1, 99), 3);
        due("value by it", x.value(5), -99);
        due("cost", x.person(5, 1, 0), 99);
        due("value by it", x.value(5), 0);
        due("purse stays", x.purse(5), 50);
        due("purse", x.person(5, 0, 0), 50);
        due("purse", x.purse(5), 0);
        due("cost stays", x.person(5, 1, 7), 0);
        due("same again", x.person(5, 1, 7), 7);
        due("of another", x.person(4, 1, 7), 3);
    }

    private static QuarrelSales purseOf(int v) {
        QuarrelSales x = with("0999999", "");
        fill(x, 0, v);
        due("filled", x.purse(0), v);
        return x;
    }

    private static void laws() {
        promise = "3 when a LAW is told SUITS come to be OVER as told";
        QuarrelSales x = with("-555555;0555555;-555555", "ab,ac,b1,a3");
        due("law 0 ends none", x.rule(0, 1), 0);
        due("over", x.count(2), 0);
        due("law 1 of 0 ends none", x.rule(1, 0), 0);
        due("over", x.count(2), 0);
        due("law 1", x.rule(1, 1), 0);
        due("all with a thing of the parish", x.count(2), 3);
        due("b1 is not", x.told(2, 4), 0);
        due("law 1 again", x.rule(1, 1), 1);
        due("law 1 back", x.rule(1, 0), 1);
        due("over for good", x.count(2), 3);
        x.suit(0, 14);
        due("not by a law that was", x.told(4, 4), 0);
        x.sale(0, 1, 0);
        due("over for good, whoever stands there", x.told(0, 4), 1);
        due("law 0 back", x.rule(0, 0), 1);
    }

    private static void thingsUpToEight() {
        promise = "4 THINGS 0 .. 7";
        QuarrelSales x = new QuarrelSales();
        for (int t = 0; t < 7; t++) {
            x.thing(6);
        }
        due("an eighth", x.thing(0), 7);
        due("a ninth", x.thing(0), FULL);
        for (int p = 0; p < 6; p++) {
            due("WORTH is 5 at first", x.worth(7, p, 99), 5);
            due("WORTH", x.worth(7, p, 0), 99);
            due("of another THING", x.worth(6, p, 5), 5);
        }
        due("behind a VILLAGE of seven", ofSeven().thing(6), 7);
        x = ofSeven();
        x.thing(3);
        due("WORTH of a THING where a dearer one was", x.worth(7, 0, 0), 5);
        due("a VILLAGE makes room", village(x, "0123456"), 1);
        due("a second", x.thing(1), 1);
        due("WORTH of what is told anew", x.worth(1, 5, 0), 5);
    }

    private static QuarrelSales ofSeven() {
        QuarrelSales x = with(EIGHT, "");
        village(x, EIGHT.substring(0, 55));
        return x;
    }

    private static void suitsUpToTwelve() {
        promise = "6 SUITS 0 .. 11, it may be OVER at once";
        QuarrelSales x = with(EIGHT, "");
        for (int s = 0; s < 12; s++) {
            due("suit", x.suit(s % 8, 15 - s % 4), s);
        }
        due("a thirteenth", x.suit(0, 10), FULL);
        due("the twelfth: f and 2", x.told(11, 0), 3);
        due("the twelfth: f and 2", x.told(11, 1), 12);
        x = with("2555555;2555555;-555555;-555555", "");
        x.suit(0, 1);
        x.suit(0, 12);
        x.suit(12, 1);
        x.suit(2, 3);
        x.suit(12, 13);
        x.suit(2, 12);
        int[] over = {1, 1, 1, 0, 0, 0};
        for (int s = 0; s < 6; s++) {
            due("over at once, " + s, x.told(s, 4), over[s]);
        }
        x.rule(1, 1);
        x.suit(12, 3);
        x.suit(12, 15);
        x.suit(0, 2);
        due("over at once by law 1", x.told(6, 4), 1);
        due("of two of people not", x.told(7, 4), 0);
        due("over at once by law 1", x.told(8, 4), 1);
        due("alike SUITS are two", with("0555555", "a1,a1,1a").count(3), 18);
    }

    private static void stands() {
        promise = "7 who STANDS on a SIDE";
        QuarrelSales x = with(EIGHT, "a5,5h,g0");
        int[][] want = {{0, 15, 0, 5, 0}, {15, 7, 5, 0, 0}, {6, 10, 6, 0, 0}};
        for (int s = 0; s < 3; s++) {
            for (int w = 0; w < 5; w++) {
                due("told(" + s + ", " + w + ")", x.told(s, w), want[s][w]);
            }
        }
        x.sale(0, 5, 0);
        x.sale(0, 3, 0);
        due("it is over for good", x.told(0, 4), 1);
        due("who stands there now", x.told(0, 2), 3);
        x.give(0);
        due("the parish", x.told(0, 2), 6);
        due("it is over for good", x.told(0, 4), 1);
    }

    private static void values() {
        promise = "10 VALUE";
        QuarrelSales x = with("0900000;0900000;0900000;0900000;0900000;0900000;0900000;0900000", "");
        for (int t = 0; t < 8; t++) {
            x.worth(t, 0, 99);
        }
        due("most", x.value(0), 792);
        due("nothing to others", x.value(1), 0);
        x = with("0000000", TWELVE);
        x.person(0, 1, 99);
        x.person(1, 1, 98);
        due("least", x.value(0), -12 * 99);
        due("least", x.value(1), -12 * 98);
        due("what all cost", x.count(3), 12 * 197);
        x = with("0500000;0500000;-500000", "ab,ac,a1,1a");
        due("once for a SUIT, none that is OVER", x.value(0), 10 - 9);
        due("by a SIDE that he is", x.value(1), -6);
        due("THE PARISH pays nothing", x.count(3), 3 + 6 + 6);
    }

    private static void tape() {
        promise = "11 THE TAPE has 80 at most";
        for (int n = 1; n <= 8; n++) {
            QuarrelSales x = blanks(80 - n);
            due("up to 80", x.type(0x2020202020202020L, n), 80);
            due("one more", x.type(32, 1), FULL);
            due("up to 81", blanks(81 - n).type(0x2020202020202020L, n), FULL);
        }
        QuarrelSales x = blanks(79);
        due("FULL leaves it", x.type(0x2020, 2), FULL);
        due("79 and one", x.type(32, 1), 80);
        due("the end of 80", x.suits(), -100);
        due("empty then", x.type(0x2020202020202020L, 8), 8);
        x = new QuarrelSales();
        due("the highest first", x.type(word("0a1b,2-~") >>> 16, 6), 6);
        due("0 first, but then no a", x.suits(), -21);
        due("the lowest alone", x.type(word("~~~~~~01"), 2), 2);
        due("01", x.suits(), 1);
    }

    private static QuarrelSales blanks(int n) {
        QuarrelSales x = new QuarrelSales();
        type(x, " ".repeat(n));
        return x;
    }

    private static int faultOf(String text) {
        return village(new QuarrelSales(), text);
    }

    private static boolean standsInVillage(int place, int b) {
        int column = place % 8;
        if (column == 7) {
            return b == ';';
        }
        return b >= '0' && b <= (column == 0 ? '5' : '9') || column == 0 && b == '-';
    }

    private static void villages() {
        promise = "12 a VILLAGE is a TEXT: 1 to 8 THINGS";
        String two = "0123456;-987654";
        for (int place = 0; place < two.length(); place++) {
            for (int b = 33; b < 127; b++) {
                String text = two.substring(0, place) + (char) b + two.substring(place + 1);
                due(text, faultOf(text), standsInVillage(place, b) ? 2 : -20 - place);
            }
            due("no more than " + place, faultOf(two.substring(0, place)), place == 7 ? 1 : -20 - place);
            due("the end behind blanks", faultOf(two.substring(0, place) + "   "), place == 7 ? 1 : -23 - place);
            due("a blank counts for nothing", faultOf(two.substring(0, place) + "  " + two.substring(place)), 2);
            due("the place is behind blanks", faultOf(two.substring(0, place) + "  ~"), -22 - place);
        }
        due("empty", faultOf(""), -20);
        due("80 blanks", faultOf(" ".repeat(80)), -100);
        due("79 blanks", faultOf(" ".repeat(79) + "!"), -99);
        due("one byte too many", faultOf(two + "0"), -35);
        for (int n = 1; n <= 8; n++) {
            due(n + " THINGS", faultOf(EIGHT.substring(0, 8 * n - 1)), n);
            due(n + " THINGS and ;", faultOf(EIGHT.substring(0, 8 * n - 1) + ";"), n == 8 ? -83 : -20 - 8 * n);
        }
        due("nine", faultOf(EIGHT + ";0000000"), -83);
        due("eight with 17 blanks", faultOf(" ".repeat(8) + EIGHT + " ".repeat(9)), 8);
        due("the last WORTH is not there, at 80", faultOf(EIGHT.substring(0, 62) + " ".repeat(18)), -100);
        due("bytes alone: a row of 80", faultOf(EIGHT + "0".repeat(17)), -83);
    }

    private static void villageKeepsTheRest() {
        promise = "12 THINGS in place of those told (no SUITS then), all else stays";
        QuarrelSales x = with("0123456;1123456", "0a,ab,a2,01");
        due("one is OVER", x.count(2), 1);
        x.rule(0, 1);
        x.rule(1, 1);
        x.person(4, 1, 44);
        x.sale(0, 2, 9);
        put(x, 1, 1, 7);
        x.image();
        due("a VILLAGE", village(x, "5012345"), 1);
        due("things", x.count(0), 1);
        due("suits", x.count(1), 0);
        due("over", x.count(2), 0);
        due("cost", x.count(3), 0);
        due("SALES so far stay", x.count(4), 1);
        due("a SUIT that was is not there", x.told(0, 0), BAD);
        due("the first SUIT again", x.suit(0, 10), 0);
        due("not over as one was", x.told(0, 4), 0);
        due("LAW 0 stays", x.rule(0, 1), 1);
        due("LAW 1 stays", x.rule(1, 1), 1);
        due("COST stays", x.person(4, 1, 44), 44);
        due("PURSE stays", x.purse(2), 41);
        due("SHEET stays", x.drop(1), 1);
        due("IMAGE stays", x.restore(), 1);
        due("as it was then", x.count(0), 2);
        village(x, EIGHT.substring(0, 48) + "-012345;4987654");
        for (int p = 0; p < 6; p++) {
            due("WORTH to each, of the seventh", x.worth(6, p, 50), p);
            due("WORTH to each, of the eighth", x.worth(7, p, 50), 9 - p);
        }
        for (String fault : new String[] {"", "0", "6123456", "0123456;0", EIGHT + ";1"}) {
            x = with("0123456;1123456", "ab,a2,01");
            village(x, fault);
            same("all else stays by a FAULT, and THE TAPE is empty", all(x), all(with("0123456;1123456", "ab,a2,01")));
        }
    }

    private static int suitsOf(String text) {
        return suits(with("0123456;1123456;2123456", ""), text);
    }

    private static boolean isSide(int b) {
        return b >= 'a' && b <= 'c' || b >= '0' && b <= '5';
    }

    private static void suitTexts() {
        promise = "13 SUITS are a TEXT: 1 to 12";
        String three = "ab,c0,5a";
        for (int place = 0; place < three.length(); place++) {
            for (int b = 33; b < 127; b++) {
                String text = three.substring(0, place) + (char) b + three.substring(place + 1);
                int column = place % 3;
                boolean stands = column == 2 ? b == ',' : isSide(b) && (column == 0 || b != text.charAt(place - 1));
                // alike SIDES show at the second one
                boolean alike = column == 0 && isSide(b) && b == text.charAt(place + 1);
                due(text, suitsOf(text), alike ? -21 - place : stands ? 3 : -20 - place);
            }
            int full = place % 3 == 2 ? place / 3 + 1 : 0;
            due("no more than " + place, suitsOf(three.substring(0, place)), full > 0 ? full : -20 - place);
            due("the end behind blanks", suitsOf(three.substring(0, place) + "  "), full > 0 ? full : -22 - place);
            due("a blank counts for nothing", suitsOf(three.substring(0, place) + "  " + three.substring(place)), 3);
            due("the place is behind blanks", suitsOf(three.substring(0, place) + "  ~"), -22 - place);
        }
        due("empty", suitsOf(""), -20);
        due("80 blanks", suitsOf(" ".repeat(80)), -100);
        due("79 blanks", suitsOf(" ".repeat(79) + "!"), -99);
        due("alike behind blanks", suitsOf("a  a"), -23);
        due("one byte too many", suitsOf(three + "a"), -28);
        for (int n = 1; n <= 12; n++) {
            due(n + " SUITS", suitsOf(TWELVE.substring(0, 3 * n - 1)), n);
            due(n + " SUITS and ,", suitsOf(TWELVE.substring(0, 3 * n - 1) + ","), n == 12 ? -55 : -20 - 3 * n);
        }
        due("thirteen", suitsOf(TWELVE + ",01"), -55);
        due("twelve with 45 blanks", suitsOf(" ".repeat(40) + TWELVE + " ".repeat(5)), 12);
        for (int things = 0; things <= 8; things++) {
            String village = EIGHT.substring(0, Math.max(0, 8 * things - 1));
            for (int t = 0; t < 9; t++) {
                QuarrelSales x = things == 0 ? new QuarrelSales() : with(village, "");
                due("letter " + t + " of " + things, suits(x, (char) ('a' + t) + "5"), t < things ? 1 : -20);
                due("letter " + t + " of " + things + ", second", suits(x, "5" + (char) ('a' + t)), t < things ? 1 : -21);
            }
        }
    }

    private static void suitTextsThatHaveNoRoom() {
        promise = "13 FULL: not all have room (none comes)";
        for (int there = 1; there <= 12; there++) {
            for (int more = 1; more <= 12; more++) {
                QuarrelSales x = with("0123456", TWELVE.substring(0, 3 * there - 1));
                boolean fits = there + more <= 12;
                due(more + " behind " + there, suits(x, "a5,".repeat(more).substring(0, 3 * more - 1)), fits ? more : FULL);
                due("how many then", x.count(1), fits ? there + more : there);
                due("THE TAPE is empty then", x.type('A', 1), 1);
            }
        }
        QuarrelSales x = with("0123456", TWELVE);
        due("a FAULT, where there is no room", suits(x, "a5,a"), -24);
        due("empty, where there is no room", suits(x, ""), -20);
        same("none comes", all(x), all(with("0123456", TWELVE)));
        x = with("0555555;0555555;1555555", "");
        due("they may be OVER at once", suits(x, "ab,0a,ac,c1"), 4);
        due("over", x.count(2), 3);
        due("ac is not", x.told(2, 4), 0);
        x = with("0555555;-555555;-555555", "");
        x.rule(1, 1);
        due("by LAW 1, too", suits(x, "ab,a1,b1,bc,12"), 5);
        due("over", x.count(2), 3);
        due("a1 is not", x.told(1, 4), 0);
        due("12 is not", x.told(4, 4), 0);
        x = with("0555555;0555555", "ab,ab,ab,ab,ab,ab,0a,0a,0a,0b,0b,0b");
        due("all twelve", x.count(2), 12);
        due("they cost nothing", x.count(3), 0);
    }

    private static void salesSoFar() {
        promise = "14 SALES so far (SWAPS two, GIFTS one)";
        QuarrelSales x = with("0900000;1090000;2000000", "");
        x.worth(0, 3, 40);
        x.sale(2, 5, 0);
        due("a SALE", x.count(4), 1);
        x.give(2);
        due("a GIFT", x.count(4), 2);
        x.swap(2, 1);
        due("a SWAP with the parish", x.count(4), 4);
        due("TO REST", x.rest(60), 1);
        due("its SALES", x.count(4), 5);
        put(x, 0, 0, 0, 1, 0, 0, 2, 0, 0, 6, 0);
        due("dealt", x.deal(0, 0, 0, 3), 2);
        due("the dealt SALES", x.count(4), 7);
        x.image();
        x.sale(0, 4, 0);
        due("one more", x.count(4), 8);
        x.restore();
        due("as it was then", x.count(4), 7);
        x.wed(0, 1);
        x.part(0, 0);
        int fresh = x.thing(1);
        for (int p = 0; p < 6; p++) {
            due("WORTH of a THING that comes behind SALES", x.worth(fresh, p, 5), 5);
        }
        due("no others", x.count(4), 7);
    }

    private static void prices() {
        promise = "15 a PURSE holds 9999 at most, what is more is gone";
        int[][] rows = {{9000, 999, 9999}, {9001, 999, 9999}, {9999, 0, 9999}, {9999, 1, 9999}, {9998, 1, 9999}, {8999, 999, 9998}};
        for (int[] row : rows) {
            QuarrelSales x = purseOf(row[0]);
            x.person(3, 0, 999);
            due("for " + row[1], x.sale(0, 3, row[1]), 0);
            due("PURSE of the seller", x.purse(0), row[2]);
            due("PURSE of the buyer", x.purse(3), 999 - row[1]);
        }
        QuarrelSales x = purseOf(9999);
        x.thing(3);
        due("of 9999", x.sale(1, 0, 999), 0);
        due("PURSE", x.purse(0), 9000);
        due("PURSE", x.purse(3), 1049);
        x = with("-555555;0555555", "");
        due("for nothing", x.sale(1, 2, 0), 0);
        due("PURSE", x.purse(2), 50);
        due("for all he has", x.sale(0, 2, 50), 0);
        due("none is left", x.purse(2), 0);
        for (int p = 0; p < 6; p++) {
            due("THE PARISH's price is gone", x.purse(p), p == 2 ? 0 : 50);
        }
        due("of an empty PURSE, for nothing", x.sale(1, 2, 0), NOT);
        x.sale(1, 3, 0);
        due("of an empty PURSE, for nothing", x.sale(1, 2, 0), 0);
        due("of an empty PURSE, for 1", x.sale(0, 2, 1), NOT);
    }

    private static void suitsThatStay() {
        promise = "15 by LAW 0 each SIDE that is this THING becomes the seller";
        QuarrelSales x = with("0555555;1555555;-555555", "ab,a0,ca,3a");
        x.rule(0, 1);
        due("none ends", x.sale(0, 1, 0), 0);
        int[][] sides = {{10, 1}, {0, 10}, {2, 10}, {13, 10}};
        for (int s = 0; s < 4; s++) {
            due("first of " + s, x.told(s, 0), sides[s][0]);
            due("second of " + s, x.told(s, 1), sides[s][1]);
        }
        due("one that is OVER stays", x.told(1, 0), 0);
        due("who stands there is another now", x.told(1, 2), 1);
        due("he stands in no SUIT of it", x.value(1), 10 - 3);
        due("of THE PARISH: stays the THING, and ends as 0 has it", x.sale(2, 0, 0), 1);
        due("side", x.told(2, 0), 2);
        x = with("0555555;1555555", "ab");
        x.rule(0, 1);
        due("he buys what is against what he sold", x.sale(0, 2, 0), 0);
        due("b comes to 0", x.sale(1, 0, 0), 0);
        due("11 against 10: b was 1's", x.told(0, 1), 11);
        due("NEVER", x.never(), 1);
    }

    private static void swaps() {
        promise = "16 SWAP";
        QuarrelSales x = with("0555555;1555555", "ab,a1,b0,ab");
        due("two THINGS change HANDS: between them goes on", x.swap(0, 1), 2);
        due("ab", x.told(0, 4), 0);
        due("back", x.swap(1, 0), 0);
        due("ab", x.told(0, 4), 0);
        x = with("0555555;1555555", "ab,a1,b0");
        x.rule(0, 1);
        due("SUITS stay: none ends", x.swap(0, 1), 0);
        int[][] sides = {{10, 11}, {10, 11}, {11, 10}};
        for (int s = 0; s < 3; s++) {
            due("first of " + s, x.told(s, 0), sides[s][0]);
            due("second of " + s, x.told(s, 1), sides[s][1]);
        }
        x = with("0555555;-555555", "ab,a2,b0,b3");
        x.rule(1, 0);
        due("with THE PARISH: b0 ends", x.swap(0, 1), 1);
        due("hand", x.hand(0), 6);
        due("hand", x.hand(1), 0);
        x = with("0555555;-555555", "a2,a3");
        x.rule(1, 1);
        due("what comes to THE PARISH ends", x.swap(1, 0), 2);
        x = with("0555555;-555555", "a2,a3");
        x.rule(1, 1);
        x.rule(0, 1);
        due("not, by both LAWS", x.swap(1, 0), 0);
        due("the seller's", x.told(0, 0), 10);
        x = with("0555555;-555555", "b0");
        x.rule(0, 1);
        due("THE PARISH's SIDE stays the THING", x.swap(0, 1), 1);
        due("purse", x.purse(0), 50);
        due("sales", x.count(4), 2);
    }

    private static void gifts() {
        promise = "17 GIFT";
        QuarrelSales x = with("0555555;-555555;-555555", "ab,bc,a0,a3");
        due("with THE PARISH on both SIDES it is not OVER", x.give(0), 0);
        due("over", x.count(2), 1);
        due("stands", x.told(0, 2), 6);
        due("stands", x.told(0, 3), 6);
        due("by LAW 1 they are", x.rule(1, 1), 0);
        due("over", x.count(2), 4);
        x = with("5555555", "");
        due("purse stays", x.give(0), 0);
        due("purse stays", x.purse(5), 50);
        due("sales", x.count(4), 1);
    }

    private static void weddings() {
        promise = "18 WEDDING: b's PURSE too (9999 at most)";
        int[][] rows = {{9000, 999, 9999}, {9000, 998, 9998}, {9001, 999, 9999}, {9999, 999, 9999}, {9999, 0, 9999}, {0, 0, 0}};
        for (int[] row : rows) {
            QuarrelSales x = purseOf(row[0]);
            x.person(5, 0, row[1]);
            due("wed", x.wed(0, 5), 0);
            due("PURSE of a", x.purse(0), row[2]);
            due("b has none then", x.purse(5), 0);
        }
        QuarrelSales x = purseOf(9999);
        due("to one of 50", x.wed(5, 0), 0);
        due("9999 at most", x.purse(5), 9999);
        due("none", x.purse(0), 0);
        x = with("0555555;1555555;-555555", "01,ab,a1,b0,02,12,bc");
        due("four end", x.wed(5, 1), 0);
        due("01 is 05", x.told(0, 1), 15);
        due("four end", x.wed(5, 0), 4);
        due("of all SUITS: SIDES are alike now", x.told(0, 0), 15);
        due("hand", x.hand(0), 5);
        due("hand", x.hand(1), 5);
        due("THE PARISH's stays", x.hand(2), 6);
        due("again nothing", x.wed(5, 0), 0);
        due("b is there as ever", x.sale(0, 0, 0), 0);
        x = with("0555555;1555555", "a2");
        x.rule(0, 1);
        x.wed(3, 0);
        due("no SALE: by LAW 0 the SIDE stays the THING", x.told(0, 0), 0);
        due("he stands there", x.told(0, 2), 3);
        due("COST of a stays", x.person(3, 1, 3), 3);
        x.person(4, 1, 44);
        x.wed(4, 3);
        due("COST of a stays", x.person(4, 1, 5), 44);
        due("COST of b stays", x.person(3, 1, 3), 3);
    }

    /** Behind the state with its HANDS, PURSES, SIDES: LAWS, COSTS, WORTHS, the IMAGE, THE TAPE, the SHEETS. */
    private static String tail(QuarrelSales x) {
        String told = all(x);
        return told.substring(told.indexOf("| laws"));
    }

    private static void whatStays() {
        promise = "15 .. 22, 33 LAWS, COSTS, WORTHS, the IMAGE, THE TAPE, the SHEETS stay";
        Call[] calls = {x -> x.sale(0, 1, 7), x -> x.sale(2, 0, 7), x -> x.swap(0, 1), x -> x.swap(1, 2), x -> x.give(1),
            x -> x.wed(2, 0), x -> x.wed(0, 2), x -> x.wed(1, 2), x -> x.rest(60), x -> x.deal(0, 0, 0, 1), x -> x.person(2, 0, 3),
            x -> x.suit(0, 12)};
        for (int k = 0; k < calls.length; k++) {
            QuarrelSales x = busy();
            hold("call " + k + " can be made", calls[k].on(x) >= 0);
            same("call " + k, tail(x), tail(busy()));
        }
    }

    private static void parts() {
        promise = "19 PART: WORTH half of it (cut; the old one the rest)";
        int[][] rows = {{0, 0, 0}, {1, 0, 1}, {2, 1, 1}, {3, 1, 2}, {98, 49, 49}, {99, 49, 50}};
        for (int[] row : rows) {
            QuarrelSales x = with("0000000", "");
            for (int p = 0; p < 6; p++) {
                x.worth(0, p, row[0]);
            }
            due("part", x.part(0, 0), 1);
            for (int p = 0; p < 6; p++) {
                due("new", x.worth(1, p, 7), row[1]);
                due("old", x.worth(0, p, 7), row[2]);
            }
        }
        QuarrelSales y = with("0000000;1123456;2000000;3097531", "");
        due("of the last THING", y.part(3, 0), 4);
        due("of one in the midst", y.part(1, 0), 5);
        int[] worths = {0, 9, 7, 5, 3, 1};
        for (int p = 0; p < 6; p++) {
            due("new", y.worth(4, p, 0), worths[p] / 2);
            due("old", y.worth(3, p, 0), worths[p] - worths[p] / 2);
            due("new", y.worth(5, p, 0), (p + 1) / 2);
            due("old", y.worth(1, p, 0), p + 1 - (p + 1) / 2);
        }
        due("no SUITS, no set", with("0555555", "").part(0, 0), 1);
        due("no SUITS, a set", with("0555555", "").part(0, 1), BAD);
        QuarrelSales x = with("0555555", "a1,a2,a3,a4,a5,1a,2a,3a,4a,5a,12,0a");
        due("all twelve", x.part(0, 4095), 1);
        for (int s = 0; s < 10; s++) {
            due("has the new one, " + s, x.told(s, s < 5 ? 0 : 1), 1);
        }
        due("has it not", x.told(10, 0), 11);
        due("that is OVER stays", x.told(11, 1), 0);
        due("the new one", x.part(1, 1 << 9 | 1), 2);
        due("first", x.told(0, 0), 2);
        due("tenth", x.told(9, 1), 2);
        due("second", x.told(1, 0), 1);
        for (int t = 3; t < 8; t++) {
            due("more", x.part(t - 1, 0), t);
        }
        due("a ninth", x.part(0, 0), FULL);
        x = with("0555555", "");
        x.rule(0, 1);
        x.rule(1, 1);
        x.suit(0, 11);
        due("of THE PARISH's", with("-555555", "").part(0, 0), 1);
        due("no SALE: by LAW 0 the SIDE is the new THING", x.part(0, 1), 1);
        due("side", x.told(0, 0), 1);
        due("over", x.count(2), 0);
    }

    private static void gains() {
        promise = "20 GAIN";
        QuarrelSales x = with("0000000;1000000", "a1,a1,a1,a1,a1,a1,a1,a1,a1,a1,a1,a1");
        x.worth(0, 1, 99);
        x.person(1, 1, 99);
        x.person(0, 1, 99);
        due("most, of the buyer", x.gain(0, 1, 1), 99 + 12 * 99);
        due("most, of the seller", x.gain(0, 1, 0), 12 * 99);
        due("the other way", x.gain(1, 0, 0), 0);
        due("no SUIT comes", x.gain(1, 0, 1), 0);
        x.person(2, 1, 99);
        due("least, of the buyer", x.gain(0, 2, 1), -12 * 99);
        x = with("-900000", "a0");
        due("of THE PARISH", x.gain(0, 0, 0), 0);
        due("of its buyer", x.gain(0, 0, 1), 9 + 3);
        due("PURSES are nothing to it", x.person(0, 0, 0), 50);
        due("of its buyer", x.gain(0, 0, 1), 9 + 3);
        x.rule(1, 1);
        due("it was OVER already", x.gain(0, 0, 1), 9);
    }

    private static void agreements() {
        promise = "21 AGREED at the least price";
        QuarrelSales x = with("0500000", "");
        for (int w = 0; w <= 99; w++) {
            x.worth(0, 0, w);
            x.worth(0, 1, 99);
            x.person(1, 0, 999);
            due("worth " + w + " to the one, 99 to the other", x.agreed(0, 1), w + 1 < 99 ? w + 1 : NONE);
        }
        x.worth(0, 0, 20);
        int[][] purses = {{0, NONE}, {20, NONE}, {21, 21}, {22, 21}, {999, 21}};
        for (int[] row : purses) {
            x.person(1, 0, row[0]);
            due("with " + row[0], x.agreed(0, 1), row[1]);
        }
        int[][] gains = {{21, NONE}, {22, 21}, {23, 21}};
        for (int[] row : gains) {
            x.worth(0, 1, row[0]);
            due("worth " + row[0] + " to him", x.agreed(0, 1), row[1]);
        }
        x = with("0300000", "a5,a5");
        x.person(1, 1, 0);
        x.person(1, 0, 0);
        x.worth(0, 1, 1);
        int[][] costs = {{0, NONE}, {1, NONE}, {2, 0}, {3, 0}, {99, 0}};
        for (int[] row : costs) {
            x.person(0, 1, row[0]);
            due("the seller's GAIN is " + (2 * row[0] - 3) + ", no PURSE", x.agreed(0, 1), row[1]);
        }
        x.worth(0, 1, 0);
        due("the buyer's GAIN is 0", x.agreed(0, 1), NONE);
        x = with("0555555", "a1,a1,a1,a1,a1,a1,a1,a1,a1,a1,a1,a1");
        x.person(1, 1, 99);
        x.person(0, 1, 0);
        x.worth(0, 0, 99);
        x.person(1, 0, 999);
        due("the dearest of all", x.agreed(0, 1), 100);
        x.person(1, 0, 99);
        due("with 99", x.agreed(0, 1), NONE);
    }

    /** Each THING goes 0 1 2 3 4, where a SUIT ends, and 0 1 2 3 5 then: nine SALES, 72 for all. */
    private static QuarrelSales restless() {
        QuarrelSales x = with("0246809;0246809;0246809;0246809;0246809;0246809;0246809;0246809", "a4,b4,c4,d4,e4,f4,g4,h4");
        for (int t = 0; t < 8; t++) {
            x.worth(t, 5, 10);
        }
        for (int p = 0; p < 6; p++) {
            x.person(p, 0, 999);
            x.person(p, 1, p == 4 ? 99 : 0);
            for (int t = 0; t < 8; t++) {
                x.worth(t, p, new int[] {2, 4, 6, 8, 0, 10}[p]);
            }
        }
        return x;
    }

    private static void rests() {
        promise = "22 TO REST, n SALES at most";
        QuarrelSales x = restless();
        due("60 at most", x.rest(60), 60);
        due("sales", x.count(4), 60);
        due("the rest", x.rest(60), 12);
        due("none", x.rest(60), 0);
        due("none", x.rest(1), 0);
        due("ended", x.count(2), 8);
        for (int t = 0; t < 8; t++) {
            due("hand", x.hand(t), 5);
        }
        int[] way = {1, 2, 3, 4, 0, 1, 2, 3, 5, 5};
        for (int n = 1; n < way.length; n++) {
            x = restless();
            due("n", x.rest(n), n);
            due("where the first THING is then", x.hand(0), way[n - 1]);
            due("the second THING", x.hand(1), 0);
        }
        x = restless();
        due("n 10", x.rest(10), 10);
        due("the second THING", x.hand(1), 1);
        x = with("0555555;-555555", "");
        x.worth(1, 0, 99);
        due("THE PARISH agrees to none", x.rest(60), 0);
        x = with("0100000", "a5");
        x.worth(0, 3, 1);
        x.person(3, 0, 0);
        x.person(3, 1, 0);
        due("for nothing", x.agreed(0, 3), 0);
        due("it is made, too", x.rest(1), 1);
        due("hand", x.hand(0), 3);
        due("purse", x.purse(0), 50);
    }

    private static void groups() {
        promise = "23 GROUPS of two or more";
        QuarrelSales x = with(OF_PARISH, "a5,b4,c3,d2,e1,f0");
        due("six", x.group(-1), 6);
        due("a 5", x.group(0), 1 | 1 << 15);
        due("g alone", x.group(6), 1 << 6);
        x.suit(6, 7);
        due("seven", x.group(-1), 7);
        due("g h", x.group(6), 3 << 6);
        due("g h", x.group(7), 3 << 6);
        for (int t = 0; t < 5; t++) {
            x.suit(15 - t, t + 1);
            due("one less", x.group(-1), 6 - t);
        }
        due("by others", x.group(5), 63 | 63 << 10);
        x = with(OF_PARISH, "ab,bc,cd,de,ef,fg,gh,h0,01,12,23,35");
        due("as many as twelve SUITS bind", x.group(0), 255 | 0xBC00);
        x = with(OF_PARISH, "35,23,12,01,h0,gh,fg,ef,de,cd,bc,ab");
        due("told from the far end on", x.group(0), 255 | 0xBC00);
        due("one", x.group(-1), 1);
        x = with("0555555;0555555", "ab,a0,a1");
        due("by SUITS that are OVER not", x.group(0), 1 | 1 << 11);
        due("alone", x.group(1), 2);
        due("one", x.group(-1), 1);
        x = with("0555555;0555555;1555555", "");
        due("no SUITS: each alone", x.group(0), 1);
        due("no SUITS: each alone", x.group(2), 4);
        due("none of two", x.group(-1), 0);
        x = with("0555555", "12,23");
        due("of PEOPLE alone", x.group(-1), 1);
        due("not by his HAND", x.group(0), 1);
    }

    private static void nevers() {
        promise = "24 NEVER";
        QuarrelSales x = with("0555555", TWELVE);
        due("all twelve", x.never(), 4095);
        x.wed(0, 1);
        due("OVER ones not", x.never(), 0);
        x = with("0555555;1555555", "ab,a1,05,a2,10,b0");
        due("of two of PEOPLE", x.never(), 4 | 16);
        x.rule(0, 1);
        x.sale(0, 3, 0);
        due("by LAW 0 the seller is one", x.never(), 2 | 4 | 8 | 16);
    }

    private static void fewestSales() {
        promise = "25 FEWEST 0 .. 3, of like ones the first as a row";
        String[] suits = {"12", "h5", "g4,h5", "f3,g4,h5", "e2,f3,g4,h5"};
        int[] rows = {0, 1, 2, 3, NONE};
        int[][] sales = {{}, {75}, {64, 75}, {53, 64, 75}, {}};
        for (int k = 0; k < suits.length; k++) {
            QuarrelSales x = with("0555555;0555555;0555555;0555555;0555555;0555555;0555555;0555555", suits[k]);
            due("of " + suits[k], x.fewest(-1), rows[k]);
            for (int i = 0; i < 3; i++) {
                due("of " + suits[k] + " the SALE " + i, x.fewest(i), i < sales[k].length ? sales[k][i] : NONE);
            }
        }
        due("twelve NEVER ones", with("0555555", TWELVE).fewest(-1), 0);
        QuarrelSales x = with("0555555;1555555", "ab,01,12");
        due("but NEVER ones", x.fewest(-1), 1);
        x.rule(0, 1);
        due("SUITS stay: NEVER ones of now", x.fewest(-1), NONE);
        x = with("-555555;0555555", "ab,a0");
        x.rule(0, 1);
        due("THE PARISH's goes with its SUITS", x.fewest(-1), 1);
        due("a to 0", x.fewest(0), 0);
        x = with("0555555;1555555;2555555", "ab,bc,ac");
        due("of like ones the first", x.fewest(-1), 2);
        due("a to 1", x.fewest(0), 1);
        due("c to 1", x.fewest(1), 21);
        x = with("-555555;-555555", "ab");
        x.rule(1, 1);
        due("by LAW 1 all are OVER", x.fewest(-1), 0);
        x = with("0555555", "a1,a2");
        x.rule(1, 1);
        due("a SALE is to one of PEOPLE, though a GIFT would end both", x.fewest(-1), 2);
        due("a to 1", x.fewest(0), 1);
        due("a to 2", x.fewest(1), 2);
        x = with("0555555;1555555", "ab,a2,b0");
        due("b has to go ahead of a", x.fewest(-1), 2);
        due("b to 0", x.fewest(0), 10);
        due("a to 2", x.fewest(1), 2);
        x = with("0555555;1555555;-555555", "a1,b0");
        due("each by THING, then buyer: a to 1, b to 0", x.fewest(0) * 100 + x.fewest(1), 110);
    }

    private static void bestSales() {
        promise = "26 BEST";
        QuarrelSales x = with("0555555", TWELVE);
        x.person(0, 1, 99);
        x.person(1, 1, 99);
        due("the dearest", x.best(9, -2), 12 * 198 * 9);
        due("of no SALE", x.best(9, -1), 0);
        x = with("0555555;1555555;2555555", "a3,b4,c5");
        for (int years = 1; years <= 9; years++) {
            due("two at most", x.best(years, -1), 2);
            due("the first", x.best(years, 0), 3);
            due("the second", x.best(years, 1), 14);
            due("what it costs", x.best(years, -2), 6 * years + 2);
        }
        x = with("0555555", "a3");
        x.person(0, 1, 0);
        x.person(3, 1, 1);
        due("1 a year for one year: as good is no SALE", x.best(1, -1), 0);
        due("what it costs", x.best(1, -2), 1);
        due("for two years one SALE", x.best(2, -1), 1);
        due("what it costs", x.best(2, -2), 1);
        due("which", x.best(2, 0), 3);
        due("no second", x.best(2, 1), NONE);
        x.person(3, 1, 0);
        due("for nothing nothing", x.best(9, -1), 0);
        x = with("0555555;1555555", "ab");
        x.person(0, 1, 2);
        x.person(1, 1, 2);
        due("of like ones the first", x.best(1, 0), 1);
        x = with("-555555", "a0");
        x.person(0, 1, 9);
        due("of THE PARISH", x.best(1, 0), 0);
        x = with("0555555", "a5");
        x.person(0, 1, 9);
        x.person(5, 1, 0);
        x.person(4, 1, 0);
        x = with("0555555;-555555;-555555", "ab,ac");
        for (int p = 0; p < 6; p++) {
            x.person(p, 1, 1);
        }
        due("what a GIFT would spare is nothing to it", x.best(1, -1), 0);
        x.person(5, 1, 0);
        due("to 5, the last of PEOPLE", x.best(1, 0), 5);
        x = with("0555555;0555555;0555555;0555555;0555555;0555555;0555555;0555555", "h5,g4");
        due("the last but one THING", x.best(1, 0), 64);
        due("the last THING", x.best(1, 1), 75);
        x = with("0555555", "a5");
        x.person(0, 1, 9);
        x.person(5, 1, 0);
        x.person(4, 1, 0);
        due("to who pays nothing, though it ends not: 4 is ahead of 5", x.best(1, 0), 4);
    }

    private static void bestRow(String call, QuarrelSales x, int years, int costs, int... sales) {
        due(call + ": how many", x.best(years, -1), sales.length);
        due(call + ": what it costs", x.best(years, -2), costs);
        for (int i = 0; i < 2; i++) {
            due(call + ": the SALE " + i, x.best(years, i), i < sales.length ? sales[i] : NONE);
        }
    }

    private static void bestRows() {
        promise = "26 BEST, two SALES";
        bestRow("one THING twice", with("0555555", "a1,a2"), 1, 2, 1, 2);
        bestRow("b has to go ahead of a", with("0555555;1555555", "ab,a2,b0"), 9, 2, 10, 2);
        bestRow("two of three", with("0555555", "a1,a2,a3"), 2, 14, 1, 2);
        QuarrelSales x = with("0555555", "a1,a1,a2,a2,a3,a3");
        for (int p = 0; p < 6; p++) {
            x.person(p, 1, p == 0 ? 0 : 50);
        }
        bestRow("the first one alone makes it dearer, then back to who pays nothing", x, 1, 202, 1, 0);
        x = with("0555555;1555555", "a3,b4");
        int[] costs = {1, 5, 0, 0, 5, 0};
        for (int p = 0; p < 6; p++) {
            x.person(p, 1, costs[p]);
        }
        bestRow("a first saves as much as it costs: b alone is as good, and fewer", x, 1, 2, 14);
        bestRow("in two years it saves more", x, 2, 2, 2, 14);
        x = with("0555555", "a1");
        x.rule(0, 1);
        bestRow("SUITS stay by LAW 0", x, 9, 54);
        x = with("-555555;1555555", "a1,b0");
        x.rule(0, 1);
        bestRow("but THE PARISH's", x, 9, 55, 1);
        x = with("0555555;-555555;-555555", "ab,ac");
        x.rule(1, 1);
        bestRow("by LAW 1 all are OVER", x, 9, 0);
    }

    private static void savings() {
        promise = "27 SAVES, 28 MATCH";
        QuarrelSales x = with("0555555", TWELVE);
        x.person(0, 1, 99);
        x.person(1, 1, 99);
        due("most", x.saves(0, 1), 12 * 198);
        x = with("-555555", "a1,a1,a1,a1,a1,a1,a1,a1,a1,a1,a1,a1");
        x.person(0, 1, 99);
        x.person(1, 1, 0);
        due("least", x.saves(0, 1), -12 * 99);
        due("the other way", x.saves(1, 0), 0);
        x = with("-555555", "a1,a2,a3,a4,a5");
        for (int p = 0; p < 6; p++) {
            x.person(p, 1, 99 - 9 * p);
        }
        due("all below 0: the first of the least", x.saves(0, 1), -9);
        due("of like ones the first", x.match(), 1);
        x.person(5, 1, 60);
        due("4 and 5 lose but 3", x.match(), 45);
        x.person(1, 1, 97);
        due("0 and 1 lose but 2", x.match(), 1);
        String[] pairs = {"01", "02", "05", "12", "15", "23", "45"};
        for (String pair : pairs) {
            x = with("0555555", pair);
            x.person(pair.charAt(0) - '0', 1, 50);
            x.person(pair.charAt(1) - '0', 1, 50);
            due("most of all", x.match(), Integer.parseInt(pair));
        }
        x = with("0555555", "01,23,23,45");
        due("a later one that is better than the first, but not than the best", x.match(), 23);
        x = with("-555555", "a1,a1");
        due("1 is worth as much to all: nothing, the first", x.match(), 1);
        x.person(4, 1, 1);
        due("a below b: 1 to 4 is not looked at", x.match(), 1);
        x.suit(0, 15);
        due("5 to 4 costs 2 less, but 4 to 5 is what is looked at", x.match(), 45);
    }

    private static void againstOthers() {
        promise = "29 AGAINST one who is neither seller nor buyer";
        for (int law = 0; law < 4; law++) {
            for (int t = 0; t < 3; t++) {
                QuarrelSales x = with("0123456;1123456;-123456", "ab,a5,b5,c5,05,bc,ac");
                x.rule(0, law & 1);
                x.rule(1, law >> 1);
                againstAll(x, t, x.hand(t));
            }
        }
    }

    private static void againstAll(QuarrelSales x, int thing, int seller) {
        for (int to = 0; to < 6; to++) {
            for (int who = 0; who < 6; who++) {
                boolean isIn = who == to || who == seller;
                due("against(" + thing + ", " + to + ", " + who + ")", x.against(thing, to, who),
                    isIn ? BAD_SO : seller == to ? NOT_SO : 0);
            }
        }
    }

    private static void payments() {
        promise = "30 PAYS";
        QuarrelSales x = with("0000000;1000000", "ab,ab,ab,ab,ab,ab,ab,ab,ab,ab,ab,ab");
        x.person(5, 1, 99);
        due("least", x.pays(0, 5, 999, 9, 16), -16 * 999 - 16 * 9 * 99 * 12 - 16 * 9 * 99);
        x = with("0000000", "a5,a5,a5,a5,a5,a5,a5,a5,a5,a5,a5,a5");
        x.person(5, 1, 99);
        x.worth(0, 5, 99);
        due("most", x.pays(0, 5, 0, 9, 0), 16 * 99 + 16 * 9 * 99 * 12);
        due("for nothing, 1 year", x.pays(0, 5, 0, 1, 0), 16 * 99 + 16 * 99 * 12);
        due("a chance of one sixteenth", x.pays(0, 5, 99, 1, 1), 16 * 99 * 12 - 99);
        due("of all sixteenths", x.pays(0, 5, 99, 1, 16), 16 * 99 * 12 - 16 * 99);
        x.rule(0, 1);
        due("SUITS stay", x.pays(0, 5, 98, 9, 0), 16);
        due("a new SUIT may come", x.pays(0, 5, 98, 9, 16), 16 - 16 * 9 * 99);
        x = with("-111111", "a1");
        x.person(3, 1, 2);
        due("of THE PARISH", x.pays(0, 3, 0, 1, 0), 16 - 16 * 2);
        x.person(3, 1, 0);
        due("who pays nothing", x.pays(0, 3, 0, 9, 16), 16);
        x.person(3, 0, 0);
        due("nothing in his PURSE", x.pays(0, 3, 2, 9, 16), -16);
        x = with(EIGHT, "");
        for (int t = 0; t < 8; t++) {
            for (int p = 0; p < 6; p++) {
                x.worth(t, p, 10 * t + p);
            }
        }
        due("his WORTH of the last THING", x.pays(7, 5, 5, 1, 0), 16 * 70);
        due("his WORTH of another", x.pays(1, 4, 0, 1, 0), 16 * 14);
    }

    private static void images() {
        promise = "31 IMAGE: all but SHEETS, THE TAPE; 32 all is as it was then";
        Call[] changes = {x -> x.person(0, 0, 1), x -> x.person(0, 1, 1), x -> x.rule(0, 0), x -> x.rule(1, 1), x -> x.thing(3),
            x -> x.worth(1, 5, 0), x -> x.suit(0, 10), x -> x.sale(0, 1, 1), x -> x.swap(0, 1), x -> x.give(0), x -> x.wed(5, 0),
            x -> x.part(0, 3), x -> x.rest(60), x -> suits(x, "05,15"), x -> village(x, "5555555")};
        QuarrelSales imaged = kept();
        imaged.image();
        String want = all(imaged);
        for (int k = 0; k < changes.length; k++) {
            QuarrelSales x = kept();
            x.image();
            changes[k].on(x);
            hold("change " + k + " changes something", !state(x).equals(state(kept())) || k == 1 || k == 2 || k == 5);
            due("restore", x.restore(), 1);
            same("change " + k, all(x), want);
        }
        QuarrelSales x = kept();
        due("image", x.image(), 1);
        type(x, "b4");
        put(x, 0, 2, 5, 6);
        due("restore", x.restore(), 1);
        due("THE TAPE stays", x.suits(), 1);
        due("the SHEET stays", x.drop(0), 2);
        due("restore of no change", x.restore(), 1);
        x.sale(0, 1, 0);
        x.image();
        x.sale(0, 2, 0);
        x.restore();
        due("the later IMAGE", x.hand(0), 1);
        x.sale(0, 3, 0);
        x.restore();
        due("as often as one will", x.hand(0), 1);
        x = new QuarrelSales();
        x.image();
        x.thing(0);
        due("an IMAGE of nothing", x.restore(), 1);
        due("nothing there", x.count(0), 0);
        x = filled();
        x.image();
        x.rule(0, 0);
        x.rule(1, 0);
        village(x, "0123456");
        due("an IMAGE of all that has room", x.restore(), 1);
        QuarrelSales other = filled();
        other.image();
        same("all is as it was then", all(x), all(other));
    }

    /** 8 THINGS, 12 SUITS, all of them OVER, each number another one than at first. */
    private static QuarrelSales filled() {
        QuarrelSales x = with(EIGHT, "a0,b1,c2,d3,e4,f5,ah,g1,g2,g3,g4,g5");
        x.rule(0, 1);
        x.rule(1, 1);
        for (int p = 0; p < 6; p++) {
            x.person(p, 0, 900 + p);
            x.person(p, 1, 90 + p);
            x.worth(7, p, 70 + p);
        }
        due("all are OVER", x.count(2), 12);
        return x;
    }

    private static QuarrelSales kept() {
        QuarrelSales x = with("0129456;1987954;-555555", "ab,a2,c3,01,c0");
        x.sale(1, 3, 7);
        x.rule(0, 1);
        x.person(4, 1, 8);
        return x;
    }

    private static void deals() {
        promise = "33 n SALES (1 .. 8), three items each";
        QuarrelSales x = with("0555555", "");
        int[] items = new int[24];
        for (int k = 0; k < 8; k++) {
            items[3 * k + 1] = 1 + k % 2;
            items[3 * k + 2] = k;
        }
        put(x, 0, 1, items);
        due("eight of 24 items", x.deal(0, 1, 0, 8), 8);
        due("purse of 2: 50 - 1 + 2 - 3 + 4 - 5 + 6 - 7", x.purse(2), 46);
        due("purse of 1: 50 - 0 + 1 - 2 + 3 - 4 + 5 - 6 + 7", x.purse(1), 54);
        x.sale(0, 0, 0);
        due("one, though the next could be made", x.deal(0, 1, 0, 1), 1);
        due("hand", x.hand(0), 1);
        due("two", x.deal(0, 1, 3, 2), 2);
        due("hand", x.hand(0), 1);
        x.sale(0, 2, 0);
        due("seven from 3 on", x.deal(0, 1, 3, 7), 0);
        due("seven from 4 on", x.deal(0, 1, 4, 7), INDEX);
        due("eight from 1 on", x.deal(0, 1, 1, 8), INDEX);
        due("the last one is his", x.deal(0, 1, 21, 1), 0);
        due("from 22 on", x.deal(0, 1, 22, 1), INDEX);
        due("from 24 on", x.deal(0, 1, 24, 1), INDEX);
        due("from far on", x.deal(0, 1, Integer.MAX_VALUE, 1), INDEX);
        due("from far on", x.deal(0, 1, Integer.MAX_VALUE - 1, 8), INDEX);
        due("from far below", x.deal(0, 1, Integer.MIN_VALUE, 8), INDEX);
        x.item(0, 1, 21, 1);
        x.item(0, 1, 18, 0);
        due("those ahead of it stay", x.deal(0, 1, 0, 8), 7);
        due("hand", x.hand(0), 1);
        x.sheet(1, 0, 0);
        due("of no items", x.deal(1, 0, 0, 1), INDEX);
        x.sheet(1, 0, 3);
        due("of three items", x.deal(1, 0, 0, 1), 1);
        due("hand", x.hand(0), 0);
        due("he has it now", x.deal(1, 0, 0, 1), 0);
        due("the SHEET stays", x.drop(1), 3);
        stopsAt("no such THING", 1, 1, 0);
        stopsAt("no such THING", -1, 1, 0);
        stopsAt("to THE PARISH", 0, 6, 0);
        stopsAt("to none", 0, -1, 0);
        stopsAt("price below 0", 0, 1, -1);
        stopsAt("price 1000", 0, 1, 1000);
        stopsAt("he has it", 0, 5, 0);
        stopsAt("his PURSE has less", 0, 2, 51);
    }

    private static void stopsAt(String why, int thing, int to, int price) {
        QuarrelSales x = with("0555555", "");
        put(x, 2, 2, 0, 5, 9, thing, to, price, 0, 4, 0);
        due(why, x.deal(2, 2, 0, 3), 1);
        due("the one ahead of it stays", x.hand(0), 5);
        due("with its price", x.purse(5), 41);
        due("sales", x.count(4), 1);
    }

    private static void rows() {
        promise = "34 a SHEET of 0 to 24 items, 35 drop";
        for (int lane = 0; lane < 3; lane++) {
            for (int n = 0; n <= 24; n++) {
                QuarrelSales x = new QuarrelSales();
                due("sheet", x.sheet(lane + 1, lane, n), n);
                due("behind the last item", x.item(lane + 1, lane, n, 1), INDEX);
                due("the last item", x.item(lane + 1, lane, n - 1, 1), n == 0 ? INDEX : 1);
                due("so many", x.drop(lane + 1), n);
                due("nothing then", x.drop(lane + 1), NULL);
                due("nothing then", x.item(lane + 1, lane, 0, 1), NULL);
            }
        }
        QuarrelSales x = with("0555555", "");
        put(x, 0, 0, 9, 9, 9, 9);
        due("a new row in its place", x.sheet(0, 0, 4), 4);
        due("of 0", read(x, 0, 0, 3), 0);
        put(x, 0, 0, 9, 9, 9, 9);
        x.sheet(0, 2, 2);
        x.sheet(0, 2, 4);
        due("of 0", read(x, 0, 2, 3), 0);
        put(x, 0, 0, 9, 9, 9, 9);
        x.drop(0);
        x.sheet(0, 0, 4);
        due("of 0", read(x, 0, 0, 0), 0);
    }

    private static void lowestBits() {
        promise = "36 item becomes v, its lowest bits";
        int none = -1;
        int[][] rows = {
            {0, 0, 0}, {0, 127, 127}, {0, 128, none}, {0, 255, none}, {0, 256, 0}, {0, 383, 127}, {0, 384, none}, {0, -1, none},
            {0, -128, none}, {0, -129, 127}, {0, -256, 0}, {0, -255, 1}, {0, 65536 + 7, 7}, {0, Integer.MIN_VALUE, 0},
            {0, Integer.MAX_VALUE, none}, {0, Integer.MIN_VALUE + 99, 99},
            {1, 127, 127}, {1, 128, 128}, {1, 255, 255}, {1, 256, 256}, {1, 999, 999}, {1, 32768, none}, {1, 65535, none},
            {1, 65536, 0}, {1, 65536 + 999, 999}, {1, -1, none}, {1, -32768, none}, {1, -65536, 0}, {1, -65536 + 5, 5},
            {1, -65537, none}, {1, Integer.MIN_VALUE, 0}, {1, Integer.MAX_VALUE, none}, {1, Integer.MIN_VALUE + 500, 500},
            {2, 128, 128}, {2, 999, 999}, {2, 1000, none}, {2, 65536, none}, {2, 65536 + 5, none}, {2, -1, none},
            {2, Integer.MIN_VALUE, none}, {2, Integer.MAX_VALUE, none}};
        for (int[] row : rows) {
            QuarrelSales x = with("0555555", "");
            x.sheet(0, row[0], 24);
            due("item", x.item(0, row[0], 23, row[1]), 1);
            due("lane " + row[0] + " of " + row[1], read(x, 0, row[0], 23), row[2]);
            due("another item", read(x, 0, row[0], 22), 0);
        }
    }

    /** Items 1 to 6 of SHEET 0 and 11 to 16 of SHEET 1, as one number each of so many digits. */
    private static void copiedOnce(String call, int lane, Call c, int want, int... items) {
        QuarrelSales x = with("0555555", "");
        put(x, 0, lane, 1, 2, 3, 4, 5, 6);
        put(x, 1, lane, 11, 12, 13, 14, 15, 16);
        due(call, c.on(x), want);
        for (int k = 0; k < 12; k++) {
            due(call + " in lane " + lane + ", item " + k, read(x, k / 6, lane, k % 6), items[k]);
        }
    }

    private static void copies() {
        promise = "37 copy, as if all were taken ahead";
        for (int lane = 0; lane < 3; lane++) {
            copiedOnce("all", lane, x -> x.copy(0, 0, 1, 0, 6), 6, 1, 2, 3, 4, 5, 6, 1, 2, 3, 4, 5, 6);
            copiedOnce("to itself on", lane, x -> x.copy(0, 0, 0, 1, 5), 5, 1, 1, 2, 3, 4, 5, 11, 12, 13, 14, 15, 16);
            copiedOnce("to itself back", lane, x -> x.copy(0, 1, 0, 0, 5), 5, 2, 3, 4, 5, 6, 6, 11, 12, 13, 14, 15, 16);
            copiedOnce("to itself in place", lane, x -> x.copy(1, 0, 1, 0, 6), 6, 1, 2, 3, 4, 5, 6, 11, 12, 13, 14, 15, 16);
            copiedOnce("the last to the first", lane, x -> x.copy(1, 5, 0, 0, 1), 1, 16, 2, 3, 4, 5, 6, 11, 12, 13, 14, 15, 16);
            copiedOnce("the first to the last", lane, x -> x.copy(1, 0, 0, 5, 1), 1, 1, 2, 3, 4, 5, 11, 11, 12, 13, 14, 15, 16);
            copiedOnce("none, at both ends", lane, x -> x.copy(0, 6, 1, 6, 0), 0, 1, 2, 3, 4, 5, 6, 11, 12, 13, 14, 15, 16);
            copiedOnce("none, above the end", lane, x -> x.copy(0, 7, 1, 6, 0), INDEX, 1, 2, 3, 4, 5, 6, 11, 12, 13, 14, 15, 16);
            copiedOnce("none, above the end", lane, x -> x.copy(0, 6, 1, 7, 0), INDEX, 1, 2, 3, 4, 5, 6, 11, 12, 13, 14, 15, 16);
            copiedOnce("none, below", lane, x -> x.copy(0, -1, 1, 0, 0), INDEX, 1, 2, 3, 4, 5, 6, 11, 12, 13, 14, 15, 16);
            copiedOnce("one too many", lane, x -> x.copy(0, 0, 1, 1, 6), INDEX, 1, 2, 3, 4, 5, 6, 11, 12, 13, 14, 15, 16);
        }
        QuarrelSales x = with("0555555", "");
        x.sheet(0, 0, 0);
        x.sheet(1, 0, 0);
        x.sheet(2, 0, 24);
        due("none of none", x.copy(0, 0, 1, 0, 0), 0);
        due("none of none, i 1", x.copy(0, 1, 1, 0, 0), INDEX);
        due("none of none, j 1", x.copy(0, 0, 1, 1, 0), INDEX);
        due("one of none", x.copy(0, 0, 1, 0, 1), INDEX);
        due("to where none are", x.copy(2, 0, 1, 0, 1), INDEX);
        due("24", x.copy(2, 0, 2, 0, 24), 24);
        due("25", x.copy(2, 0, 2, 0, 25), INDEX);
        due("none at 24", x.copy(2, 24, 0, 0, 0), 0);
        put(x, 0, 2, 999, 1000);
        put(x, 1, 2, 0, 0);
        due("as they are", x.copy(0, 0, 1, 0, 2), 2);
        due("999", read(x, 1, 2, 0), 999);
        due("1000", read(x, 1, 2, 1), -1);
    }

    public static void main(String[] args) {
        newObject();
        lastCall();
        persons();
        laws();
        thingsUpToEight();
        suitsUpToTwelve();
        stands();
        values();
        tape();
        villages();
        villageKeepsTheRest();
        suitTexts();
        suitTextsThatHaveNoRoom();
        salesSoFar();
        prices();
        suitsThatStay();
        swaps();
        gifts();
        weddings();
        whatStays();
        parts();
        gains();
        agreements();
        rests();
        groups();
        nevers();
        fewestSales();
        bestSales();
        bestRows();
        savings();
        againstOthers();
        payments();
        images();
        deals();
        rows();
        lowestBits();
        copies();
        end();
    }
}
