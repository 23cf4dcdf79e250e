/** The promises of DOC.md one by one: ordinary inputs, the edges that it names, wrong inputs. */
public final class PromiseTest extends Bench {
    private static void newObject() {
        promise = "1 a new object";
        QuarrelSales x = new QuarrelSales();
        for (int w = 0; w < 5; w++) {
            due("count(" + w + ")", x.count(w), 0);
        }
        for (int p = 0; p < 6; p++) {
            due("purse", x.purse(p), 50);
            due("value", x.value(p), 0);
            due("cost", x.person(p, 1, 3), 3);
        }
        due("law 0", x.rule(0, 0), 0);
        due("law 1", x.rule(1, 0), 0);
        due("restore()", x.restore(), NONE);
        due("village() of no bytes", x.village(), -20);
        due("suits() of no bytes", x.suits(), -20);
        due("hand(0)", x.hand(0), BAD);
        due("told(0, 0)", x.told(0, 0), BAD);
        for (int s = 0; s < 4; s++) {
            due("drop(" + s + ")", x.drop(s), NULL);
        }
    }

    private static void person() {
        promise = "2 person";
        QuarrelSales x = new QuarrelSales();
        due("purse", x.person(2, 0, 999), 50);
        due("purse", x.person(2, 0, 0), 999);
        due("purse", x.purse(2), 0);
        due("purse of another", x.purse(1), 50);
        due("cost", x.person(5, 1, 99), 3);
        due("cost", x.person(5, 1, 0), 99);
        due("cost", x.person(5, 1, 7), 0);
        due("purse too much", x.person(0, 0, 1000), -1);
        due("purse below 0", x.person(0, 0, -1), -1);
        due("cost too much", x.person(0, 1, 100), -1);
        due("cost below 0", x.person(0, 1, -1), -1);
        due("what 2", x.person(0, 2, 0), -1);
        due("what -1", x.person(0, -1, 0), -1);
        due("person 6", x.person(6, 0, 0), -1);
        due("person -1", x.person(-1, 0, 0), -1);
        due("purse stays", x.purse(0), 50);
        x = with("0555555", "");
        x.person(0, 0, 999);
        x.sale(0, 1, 50);
        due("what it was, above what can be told", x.person(0, 0, 1), 1049);
    }

    private static void rule() {
        promise = "3 rule";
        QuarrelSales x = with("0555555;-555555", "ab,a2,b3");
        due("law 0", x.rule(0, 1), 0);
        due("law 0", x.rule(0, 1), 1);
        due("law 0", x.rule(0, 0), 1);
        due("over", x.count(2), 0);
        due("law 1", x.rule(1, 1), 0);
        due("over by the parish", x.count(2), 2);
        due("a and b", x.told(0, 4), 1);
        due("a and 2", x.told(1, 4), 0);
        due("law 1 back", x.rule(1, 0), 1);
        due("over for good", x.count(2), 2);
        due("what 2", x.rule(2, 0), -1);
        due("what -1", x.rule(-1, 0), -1);
        due("v 2", x.rule(0, 2), -1);
        due("v -1", x.rule(1, -1), -1);
        due("law 1", x.rule(1, 0), 0);
    }

    private static void thing() {
        promise = "4 thing";
        QuarrelSales x = new QuarrelSales();
        due("hand 7", x.thing(7), -1);
        due("hand -1", x.thing(-1), -1);
        for (int t = 0; t < 8; t++) {
            due("thing", x.thing(t % 7), t);
            due("hand", x.hand(t), t % 7);
        }
        due("ninth", x.thing(0), FULL);
        due("ninth, bad", x.thing(7), BAD);
        due("worth at first", x.worth(3, 4, 1), 5);
        due("things", x.count(0), 8);
    }

    private static void worth() {
        promise = "5 worth";
        QuarrelSales x = with("0123456;1987654", "");
        due("worth", x.worth(0, 0, 99), 1);
        due("worth", x.worth(0, 0, 0), 99);
        due("worth", x.worth(1, 5, 50), 4);
        due("worth", x.worth(1, 5, 50), 50);
        due("of the other one", x.worth(0, 5, 0), 6);
        due("100", x.worth(0, 0, 100), -1);
        due("-1", x.worth(0, 0, -1), -1);
        due("thing 2", x.worth(2, 0, 1), -1);
        due("thing -1", x.worth(-1, 0, 1), -1);
        due("person 6", x.worth(0, 6, 1), -1);
        due("person -1", x.worth(1, -1, 1), -1);
        due("it stays", x.worth(0, 0, 0), 0);
    }

    private static void suit() {
        promise = "6 suit";
        QuarrelSales x = with("0555555;0555555;-555555;-555555", "");
        due("a person and himself", x.suit(10, 10), -1);
        due("a thing and itself", x.suit(1, 1), -1);
        due("thing not there", x.suit(4, 0), -1);
        due("thing not there", x.suit(0, 4), -1);
        due("8", x.suit(8, 0), -1);
        due("9", x.suit(0, 9), -1);
        due("16", x.suit(0, 16), -1);
        due("-1", x.suit(-1, 0), -1);
        due("in one hand", x.suit(0, 1), 0);
        due("over at once", x.told(0, 4), 1);
        due("with his own", x.suit(10, 0), 1);
        due("over at once", x.told(1, 4), 1);
        due("with another", x.suit(0, 11), 2);
        due("not over", x.told(2, 4), 0);
        due("both of the parish", x.suit(2, 3), 3);
        due("not over", x.told(3, 4), 0);
        due("two people", x.suit(15, 10), 4);
        x.rule(1, 1);
        due("with the parish's", x.suit(2, 12), 5);
        due("over by law 1", x.told(5, 4), 1);
        for (int s = 6; s < 12; s++) {
            due("suit", x.suit(10, 11), s);
        }
        due("thirteenth", x.suit(10, 11), FULL);
        due("thirteenth, bad", x.suit(10, 10), BAD);
        due("how many", x.count(1), 12);
    }

    private static void told() {
        promise = "7 told";
        QuarrelSales x = with("3555555;-555555", "ab,2a,b5");
        int[][] want = {{0, 1, 3, 6, 0}, {12, 0, 2, 3, 0}, {1, 15, 6, 5, 0}};
        for (int s = 0; s < 3; s++) {
            for (int w = 0; w < 5; w++) {
                due("told(" + s + ", " + w + ")", x.told(s, w), want[s][w]);
            }
        }
        x.sale(0, 2, 0);
        due("stands now", x.told(1, 3), 2);
        due("over", x.told(1, 4), 1);
        x.sale(0, 4, 0);
        due("stands later", x.told(1, 3), 4);
        due("over for good", x.told(1, 4), 1);
        due("suit 3", x.told(3, 0), -1);
        due("suit -1", x.told(-1, 0), -1);
        due("what 5", x.told(0, 5), -1);
        due("what -1", x.told(0, -1), -1);
    }

    private static void handAndPurse() {
        promise = "8 hand";
        QuarrelSales x = with("5555555;-555555", "");
        due("hand", x.hand(0), 5);
        due("hand", x.hand(1), 6);
        due("thing 2", x.hand(2), -1);
        due("thing -1", x.hand(-1), -1);
        promise = "9 purse";
        x.person(4, 0, 123);
        due("purse", x.purse(4), 123);
        due("purse", x.purse(5), 50);
        due("person 6", x.purse(6), -1);
        due("person -1", x.purse(-1), -1);
    }

    private static void value() {
        promise = "10 value";
        QuarrelSales x = with("0123456;0987654;1555555", "ac,bc,a1,23");
        due("of 0: 1 + 9 - 3 * 3", x.value(0), 1);
        due("of 1: 5 - 3 * 3", x.value(1), -4);
        due("of 2: -3", x.value(2), -3);
        due("of 4", x.value(4), 0);
        x.person(0, 1, 10);
        due("of 0: 10 - 30", x.value(0), -20);
        x.person(0, 0, 999);
        due("the purse is none of it", x.value(0), -20);
        x.sale(2, 0, 0);
        due("of 0: 15 - 10", x.value(0), 5);
        due("of 1: -3", x.value(1), -3);
        due("person 6", x.value(6), -100001);
        due("person -1", x.value(-1), -100001);
        x = with("0555555;-555555;-555555", "ab,bc");
        due("once for a suit, none for the parish", x.value(0), 2);
        due("cost of all", x.count(3), 3);
    }

    private static void tape() {
        promise = "11 type";
        QuarrelSales x = new QuarrelSales();
        due("n 0", x.type(65, 0), -1);
        due("n 9", x.type(65, 9), -1);
        due("n 9 of good bytes", x.type(0x4141414141414141L, 9), -1);
        due("n -1", x.type(65, -1), -1);
        due("31", x.type(31, 1), -1);
        due("127", x.type(127, 1), -1);
        due("a byte of 0", x.type(65, 2), -1);
        due("a byte of 255", x.type(-1L, 8), -1);
        due("a byte of 128 in the midst", x.type(0x418041L, 3), -1);
        due("the byte above is not looked at", x.type(0x1F30L, 1), 1);
        due("126 and 32", x.type(0x7E20L, 2), 3);
        due("a fault at 1", x.village(), -21);
        due("highest first", x.type(0x30313233343536L, 7), 7);
        due("village", x.village(), 1);
        due("worth to 0", x.worth(0, 0, 0), 1);
        due("worth to 5", x.worth(0, 5, 0), 6);
        for (int k = 1; k <= 9; k++) {
            due("eight more", x.type(0x2020202020202020L, 8), 8 * k);
        }
        due("79", x.type(0x20202020202020L, 7), 79);
        due("81", x.type(0x2020L, 2), FULL);
        due("bad is named first", x.type(0x201FL, 2), BAD);
        due("80", x.type(0x20L, 1), 80);
        due("81", x.type(0x20L, 1), FULL);
        due("the end", x.village(), -100);
        due("empty then", x.type(0x20L, 1), 1);
    }

    private static void village() {
        promise = "12 village";
        QuarrelSales x = with("0123456", "a2,34");
        x.sale(0, 1, 7);
        x.person(3, 1, 9);
        x.rule(0, 1);
        due("two", village(x, "5000000;-999999"), 2);
        due("things", x.count(0), 2);
        due("no suits", x.count(1), 0);
        due("none over", x.count(2), 0);
        due("sales stay", x.count(4), 1);
        due("purse stays", x.purse(1), 43);
        due("cost stays", x.person(3, 1, 9), 9);
        due("law stays", x.rule(0, 0), 1);
        due("hand", x.hand(0), 5);
        due("hand", x.hand(1), 6);
        due("worth", x.worth(1, 2, 9), 9);
        suits(x, "ab,01");
        String before = state(x);
        String[] bad = {"", "6", "a", " - 1x", "0123456;", "0123456,", "01234567", "012345", "0 1 2 3 4 5 6 ; 7", "0123456;;", "; ", "  ", "-12345-"};
        int[] fault = {0, 0, 0, 4, 8, 7, 7, 6, 16, 8, 0, 2, 6};
        for (int k = 0; k < bad.length; k++) {
            due("village of '" + bad[k] + "'", village(x, bad[k]), -20 - fault[k]);
            due("the tape is empty then", x.type(65, 1), 1);
            x.village();
        }
        same("faults", state(x), before);
        String eight = "0000000;1111111;2222222;3333333;4444444;5555555;-666666;0777777";
        due("a ninth", village(x, eight + ";0000000"), -20 - 63);
        same("a ninth", state(x), before);
        due("eight with blanks", village(x, " " + eight + "  "), 8);
        due("worth", x.worth(7, 5, 0), 7);
        due("no suits", x.count(1), 0);
        due("blanks within", village(x, "0 12 3 456 ;- 000 000"), 2);
        due("hand", x.hand(1), 6);
    }

    private static void suitsText() {
        promise = "13 suits";
        QuarrelSales x = with("0123456;1123456;-111111", "");
        due("one", suits(x, "ab"), 1);
        due("two more", suits(x, " c 2 , 5 a "), 2);
        due("side", x.told(1, 0), 2);
        due("side", x.told(1, 1), 12);
        due("side", x.told(2, 0), 15);
        due("side", x.told(2, 1), 0);
        due("over at once", suits(x, "0a,0b"), 2);
        due("how many over", x.count(2), 1);
        due("which", x.told(3, 4), 1);
        due("how many", x.count(1), 5);
        String before = state(x);
        String[] bad = {"", "a", "aa", "a6", "6a", "da", "ad", "ab,", "ab;", "ab,11", "abc", "ab, ,cd", "  A", "a ", "ab,ac,3"};
        int[] fault = {0, 1, 1, 1, 0, 0, 1, 3, 2, 4, 2, 4, 2, 2, 7};
        for (int k = 0; k < bad.length; k++) {
            due("suits of '" + bad[k] + "'", suits(x, bad[k]), -20 - fault[k]);
            due("the tape is empty then", x.type(65, 1), 1);
            x.suits();
        }
        same("faults", state(x), before);
        due("eight more", suits(x, "01,01,01,01,01,01,01,01"), FULL);
        same("full", state(x), before);
        due("the tape is empty then", x.type(65, 1), 1);
        x.suits();
        due("a fault ahead of full", suits(x, "01,01,01,01,01,01,01,01,"), -20 - 24);
        String twelve = "01,01,01,01,01,01,01,01,01,01,01,01";
        due("a thirteenth is a fault", suits(x, twelve + ",01"), -20 - 35);
        due("twelve are none", suits(x, twelve), FULL);
        due("seven more", suits(x, "01,01,01,01,01,01,01"), 7);
        due("how many", x.count(1), 12);
        x = new QuarrelSales();
        due("no things", suits(x, "a0"), -20);
        due("twelve", suits(x, twelve), 12);
    }

    private static void count() {
        promise = "14 count";
        QuarrelSales x = with("0123456;1123456;-111111", "ab,bc,02,a0");
        x.person(1, 1, 10);
        due("things", x.count(0), 3);
        due("suits", x.count(1), 4);
        due("over", x.count(2), 1);
        due("cost: 3 + 10, 10, 3 + 3", x.count(3), 29);
        due("sales", x.count(4), 0);
        x.sale(0, 1, 0);
        due("sales", x.count(4), 1);
        due("over", x.count(2), 2);
        due("cost", x.count(3), 16);
        x.swap(1, 2);
        due("a swap is two", x.count(4), 3);
        x.give(0);
        due("a gift is one", x.count(4), 4);
        x.wed(1, 2);
        x.part(1, 0);
        x.sale(0, 6, 0);
        x.give(0);
        due("weddings, parts, refused ones are none", x.count(4), 4);
        due("what 5", x.count(5), -1);
        due("what -1", x.count(-1), -1);
    }

    private static void sale() {
        promise = "15 sale";
        QuarrelSales x = with("0555555;1555555;-555555", "ab,b0,c1,c3");
        due("thing 3", x.sale(3, 0, 0), -1);
        due("thing -1", x.sale(-1, 0, 0), -1);
        due("to the parish", x.sale(0, 6, 0), -1);
        due("to -1", x.sale(0, -1, 0), -1);
        due("price -1", x.sale(0, 1, -1), -1);
        due("price 1000", x.sale(0, 1, 1000), -1);
        due("he has it", x.sale(0, 0, 0), -2);
        due("51 of 50", x.sale(0, 1, 51), -2);
        due("bad ahead of not", x.sale(0, 0, 1000), -1);
        due("sales", x.count(4), 0);
        due("two end", x.sale(1, 0, 50), 2);
        due("purse", x.purse(0), 0);
        due("purse", x.purse(1), 100);
        due("of the parish", x.sale(2, 1, 30), 1);
        due("its price is gone", x.purse(1), 70);
        due("sales", x.count(4), 2);
        due("none ends", x.sale(2, 2, 0), 0);
        x.person(4, 0, 999);
        due("999", x.sale(0, 4, 999), 0);
        due("purse", x.purse(4), 0);
        due("purse", x.purse(0), 999);

        x = with("0555555;5000000", "");
        for (int k = 1; k <= 11; k++) {
            x.person(1, 0, 999);
            x.sale(0, 1, 999);
            x.sale(0, 0, 0);
        }
        due("9999 at most", x.purse(0), 9999);
        x.person(1, 0, 5);
        x.sale(1, 0, 999);
        due("of 9999", x.purse(0), 9000);

        x = with("0555555;1555555;2555555;-555555", "ab,ca,d1,a3");
        x.rule(0, 1);
        due("none ends", x.sale(0, 1, 0), 0);
        due("the first stays with the seller", x.told(0, 0), 10);
        due("other side too", x.told(1, 1), 10);
        due("and with a person", x.told(3, 0), 10);
        due("the other's side stays", x.told(0, 1), 1);
        due("the parish's stays the thing", x.sale(3, 1, 0), 1);
        due("side", x.told(2, 0), 3);
        x.sale(3, 2, 0);
        due("of one that is over nothing changes", x.told(2, 0), 3);
    }

    private static void swap() {
        promise = "16 swap";
        QuarrelSales x = with("0555555;1555555;-555555;0555555;-555555", "ab,a1,b2,c0");
        due("thing 5", x.swap(0, 5), -1);
        due("thing -1", x.swap(-1, 0), -1);
        due("one hand", x.swap(0, 3), -2);
        due("itself", x.swap(0, 0), -2);
        due("both the parish's", x.swap(2, 4), -2);
        due("a1 ends, ab does not", x.swap(0, 1), 1);
        due("hand", x.hand(0), 1);
        due("hand", x.hand(1), 0);
        due("ab", x.told(0, 4), 0);
        due("a1", x.told(1, 4), 1);
        due("sales", x.count(4), 2);
        due("with the parish, c0 ends", x.swap(2, 1), 1);
        due("hand", x.hand(2), 0);
        due("hand", x.hand(1), 6);
        due("purses", x.purse(0), 50);
        x.rule(1, 1);
        due("over by law 1", x.count(2), 4);

        x = with("0555555;1555555;-555555", "ab,a2,c3,c1");
        x.rule(0, 1);
        due("none ends", x.swap(0, 1), 0);
        due("sides are the sellers", x.told(0, 0), 10);
        due("sides are the sellers", x.told(0, 1), 11);
        due("sides are the sellers", x.told(1, 0), 10);
        due("c1 ends", x.swap(2, 0), 1);
        due("of the parish: the thing", x.told(2, 0), 2);
    }

    private static void give() {
        promise = "17 give";
        QuarrelSales x = with("0555555;1555555;-555555", "ab,a2,b3");
        due("thing 3", x.give(3), -1);
        due("thing -1", x.give(-1), -1);
        due("the parish's", x.give(2), -2);
        due("none ends", x.give(0), 0);
        due("hand", x.hand(0), 6);
        due("stands", x.told(0, 2), 6);
        due("again", x.give(0), -2);
        x.rule(1, 1);
        due("over", x.count(2), 2);
        due("one ends", x.give(1), 1);
        due("sales", x.count(4), 2);
        x = with("0555555;1555555", "ab,a2");
        x.rule(1, 1);
        x.rule(0, 1);
        due("suits stay with the giver", x.give(0), 0);
        due("side", x.told(1, 0), 10);
    }

    private static void wed() {
        promise = "18 wed";
        QuarrelSales x = with("0555555;1555555;2555555", "ab,ac,1c,01,21,bc");
        due("one", x.wed(1, 1), -1);
        due("a 6", x.wed(6, 0), -1);
        due("b 6", x.wed(0, 6), -1);
        due("a -1", x.wed(-1, 0), -1);
        x.person(1, 0, 30);
        due("ab and 01 end", x.wed(0, 1), 2);
        due("hand", x.hand(1), 0);
        due("purse", x.purse(0), 80);
        due("purse", x.purse(1), 0);
        due("side", x.told(2, 0), 10);
        due("of those that are over, too", x.told(3, 1), 10);
        due("side", x.told(4, 1), 10);
        due("the suits that are left", x.wed(2, 0), 4);
        due("purse", x.purse(2), 130);
        due("of those that are over, too", x.told(3, 0), 12);
        due("sales", x.count(4), 0);
        x = with("0555555", "");
        for (int k = 1; k <= 11; k++) {
            x.person(1, 0, 999);
            x.wed(0, 1);
        }
        due("9999 at most", x.purse(0), 9999);
        x = with("0555555;1555555", "a1,b2");
        x.rule(0, 1);
        due("no sale: no side stays", x.wed(2, 1), 1);
        due("side", x.told(1, 0), 1);
        due("side", x.told(0, 1), 12);
    }

    private static void part() {
        promise = "19 part";
        QuarrelSales x = with("0123459;1123456;-777777", "ab,a2,a3,bc,0a");
        x.worth(0, 0, 99);
        x.person(0, 1, 2);
        due("thing 3", x.part(3, 0), -1);
        due("thing -1", x.part(-1, 0), -1);
        due("set -1", x.part(0, -1), -1);
        due("suit 5", x.part(0, 32), -1);
        due("the new one", x.part(0, 1 | 4 | 8 | 16), 3);
        due("hand", x.hand(3), 0);
        due("ab", x.told(0, 0), 3);
        due("a2 is not in it", x.told(1, 0), 0);
        due("a3", x.told(2, 0), 3);
        due("bc has it not", x.told(3, 0), 1);
        due("0a is over", x.told(4, 1), 0);
        due("half", x.worth(3, 0, 49), 49);
        due("the rest", x.worth(0, 0, 50), 50);
        due("half of 9", x.worth(3, 5, 4), 4);
        due("the rest of 9", x.worth(0, 5, 5), 5);
        due("half of 2", x.worth(3, 1, 1), 1);
        due("sales", x.count(4), 0);
        due("over", x.count(2), 1);
        due("of the parish's", x.part(2, 8), 4);
        due("second side", x.told(3, 1), 4);
        due("hand", x.hand(4), 6);
        due("all suits", x.part(0, 31), 5);
        due("more", x.part(0, 0), 6);
        due("more", x.part(0, 0), 7);
        due("ninth", x.part(0, 0), FULL);
        due("bad ahead of full", x.part(0, 32), BAD);
    }

    private static void gain() {
        promise = "20 gain";
        QuarrelSales x = with("0123456;1123456;-123456", "ab,a2,c1,ac");
        x.person(1, 1, 10);
        due("of the seller: -1 + 9", x.gain(0, 1, 0), 8);
        due("of the buyer: 2 + 10 - 20", x.gain(0, 1, 1), -8);
        due("of the parish", x.gain(2, 1, 0), 0);
        due("of its buyer: 2 + 10 - 10", x.gain(2, 1, 1), 2);
        due("purses are not looked at", x.person(1, 0, 0), 50);
        due("of the buyer", x.gain(0, 1, 1), -8);
        due("he has it", x.gain(0, 0, 0), -100002);
        due("to 6", x.gain(0, 6, 0), -100001);
        due("to -1", x.gain(0, -1, 0), -100001);
        due("thing 3", x.gain(3, 0, 0), -100001);
        due("thing -1", x.gain(-1, 0, 0), -100001);
        due("what 2", x.gain(0, 1, 2), -100001);
        due("what -1", x.gain(0, 1, -1), -100001);
        due("bad ahead of not", x.gain(0, 0, 2), -100001);
        due("none is made", x.count(4), 0);
        due("none is over", x.count(2), 0);
        x.rule(0, 1);
        due("by law 0 the seller keeps his suits", x.gain(0, 1, 0), -1);
        due("and the buyer gets none", x.gain(0, 1, 1), 2);
    }

    private static void agreed() {
        promise = "21 agreed";
        QuarrelSales x = with("0511999;-999999;1055555", "");
        due("thing 3", x.agreed(3, 0), -1);
        due("thing -1", x.agreed(-1, 0), -1);
        due("to 6", x.agreed(0, 6), -1);
        due("to -1", x.agreed(0, -1), -1);
        due("the parish's", x.agreed(1, 0), -2);
        due("he has it", x.agreed(0, 0), -2);
        due("worth 5 to him, 9 to the other", x.agreed(0, 3), 6);
        due("worth less", x.agreed(0, 1), -4);
        x.worth(0, 1, 6);
        due("as much as the price is no gain", x.agreed(0, 1), -4);
        x.worth(0, 1, 7);
        due("one more", x.agreed(0, 1), 6);
        x.person(3, 0, 5);
        due("he has it not", x.agreed(0, 3), -4);
        x.person(3, 0, 6);
        due("he has it", x.agreed(0, 3), 6);
        due("none is made", x.count(4), 0);
        x = with("0511999;1111111", "ab");
        x.person(0, 1, 6);
        due("the seller gains 1: for nothing", x.agreed(0, 3), 0);
        x.person(0, 1, 5);
        due("he gains 0: for 1", x.agreed(0, 3), 1);
        x.person(0, 1, 0);
        x.worth(0, 0, 99);
        x.worth(0, 3, 99);
        x.person(3, 0, 999);
        due("for 100 none", x.agreed(0, 3), -4);
        x.person(3, 1, 0);
        x.worth(0, 0, 97);
        due("for 98", x.agreed(0, 3), 98);
    }

    private static void rest() {
        promise = "22 rest";
        QuarrelSales x = with("0123456;1023456", "");
        due("n 0", x.rest(0), -1);
        due("n 61", x.rest(61), -1);
        due("n -1", x.rest(-1), -1);
        due("one", x.rest(1), 1);
        due("0 to 2 for 2, as 1 would pay no more than it is worth", x.hand(0), 2);
        due("purse", x.purse(0), 52);
        due("purse", x.purse(2), 48);
        due("sales", x.count(4), 1);
        due("the rest", x.rest(60), 3);
        due("to who would have to get 6 for it, which it is worth to 5", x.hand(0), 4);
        due("hand", x.hand(1), 5);
        due("no more", x.rest(60), 0);
        due("sales", x.count(4), 4);
        x = with("0123456;1023456", "");
        due("two", x.rest(2), 2);
        due("first by thing", x.hand(0), 4);
        due("first by thing", x.hand(1), 1);
    }

    private static void group() {
        promise = "23 group";
        QuarrelSales x = with("0555555;1555555;2555555;3555555;4555555;4555555", "ab,b5,d3,c2,12,ef,e0");
        // over at once: d3, c2, ef
        due("groups", x.group(-1), 3);
        due("a b 5", x.group(0), 1 | 2 | 1 << 15);
        due("b", x.group(1), 1 | 2 | 1 << 15);
        due("c alone", x.group(2), 4);
        due("e 0", x.group(4), 16 | 1 << 10);
        due("f alone", x.group(5), 32);
        due("thing 6", x.group(6), -1);
        due("-2", x.group(-2), -1);
        x.suit(5, 10);
        due("by others too", x.group(4), 16 | 32 | 1 << 10);
        due("groups", x.group(-1), 3);
        x.suit(5, 0);
        due("groups", x.group(-1), 2);
        due("all of them", x.group(1), 1 | 2 | 16 | 32 | 1 << 10 | 1 << 15);
        // a row whose SUITS come in the way that takes the most steps
        x = with("0555555;1555555;2555555;3555555;4555555;5555555;0555555;1555555", "gh,fg,ef,de,cd,bc,ab");
        due("a row", x.group(0), 255);
        due("groups", x.group(-1), 1);
        due("no things", new QuarrelSales().group(0), -1);
        due("no groups", new QuarrelSales().group(-1), 0);
    }

    private static void never() {
        promise = "24 never";
        QuarrelSales x = with("0555555;1555555", "ab,01,a2,23,a0");
        due("two of them", x.never(), 2 | 8);
        x.wed(0, 1);
        due("one is over", x.never(), 8);
        x.rule(0, 1);
        x.sale(0, 4, 0);
        due("by law 0", x.never(), 4 | 8);
        due("none", new QuarrelSales().never(), 0);
    }

    private static void fewest() {
        promise = "25 fewest";
        QuarrelSales x = with("0555555;1555555;2555555;3555555", "ab,01");
        due("i -2", x.fewest(-2), -1);
        due("i 3", x.fewest(3), -1);
        due("one", x.fewest(-1), 1);
        due("the first: thing 0 to 1", x.fewest(0), 1);
        due("no second", x.fewest(1), -4);
        due("none is made", x.count(4), 0);
        x.suit(0, 2);
        due("two", x.fewest(-1), 2);
        due("first", x.fewest(0), 1);
        due("then on to 2, ahead of c to 1", x.fewest(1), 2);
        due("no third", x.fewest(2), -4);
        x.suit(3, 12);
        due("three", x.fewest(-1), 3);
        due("first", x.fewest(0), 1);
        due("second", x.fewest(1), 2);
        due("third", x.fewest(2), 32);
        x.suit(1, 14);
        due("b to 4, too: four", x.fewest(-1), -4);
        due("not by three", x.fewest(0), -4);
        due("bad ahead of it", x.fewest(3), -1);
        x = with("0555555;-555555", "01");
        due("none but never ones", x.fewest(-1), 0);
        due("no first", x.fewest(0), -4);
        x = with("-555555;-555555", "ab");
        due("both of the parish", x.fewest(-1), 2);
        due("first", x.fewest(0), 0);
        due("second", x.fewest(1), 10);
        x = with("0555555;-555555;3555555", "ab,c4");
        x.rule(0, 1);
        due("by law 0 not", x.fewest(-1), -4);
        x = with("0555555;-555555", "ab");
        x.rule(0, 1);
        due("by law 0 the parish's", x.fewest(-1), 1);
        due("which", x.fewest(0), 10);
        x = with("0555555;1555555;2555555", "a3,b3,a4");
        due("a goes twice", x.fewest(-1), 3);
        due("first", x.fewest(0), 3);
        due("second", x.fewest(1), 4);
        due("third", x.fewest(2), 13);
    }

    private static void best() {
        promise = "26 best";
        QuarrelSales x = with("0555555;1555555;2555555", "ab");
        due("years 0", x.best(0, 0), -1);
        due("years 10", x.best(10, 0), -1);
        due("i -3", x.best(1, -3), -1);
        due("i 2", x.best(1, 2), -1);
        due("one", x.best(1, -1), 1);
        due("it costs", x.best(1, -2), 1);
        due("which", x.best(1, 0), 1);
        due("no second", x.best(1, 1), -4);
        due("none is made", x.count(4), 0);
        x.suit(1, 2);
        due("two", x.best(9, -1), 2);
        due("they cost", x.best(9, -2), 2);
        due("first", x.best(9, 0), 1);
        due("then b to 2, ahead of c to 1", x.best(9, 1), 12);
        x.person(0, 1, 0);
        x.person(1, 1, 1);
        x.person(2, 1, 0);
        due("one that spares 2 a year", x.best(1, -1), 1);
        due("b to 0, who pays nothing", x.best(1, 0), 10);
        due("costs 1", x.best(1, -2), 1);
        for (int p = 0; p < 6; p++) {
            x.person(p, 1, 0);
        }
        due("as good: the fewest", x.best(9, -1), 0);
        due("costs nothing", x.best(9, -2), 0);
        due("no first", x.best(9, 0), -4);
        x = with("0555555;1555555", "ab");
        for (int p = 0; p < 6; p++) {
            x.person(p, 1, p == 1 ? 1 : 0);
        }
        due("as good: none", x.best(1, -1), 0);
        due("costs", x.best(1, -2), 1);
        due("in two years one", x.best(2, -1), 1);
        due("costs", x.best(2, -2), 1);
        due("empty", new QuarrelSales().best(1, -1), 0);
    }

    private static void saves() {
        promise = "27 saves";
        QuarrelSales x = with("0555555;1555555", "ab,a1,b2,01");
        x.person(0, 1, 10);
        due("three end, b2 is his who pays 10: 3 * 13 - 7", x.saves(0, 1), 32);
        due("the other way: 39", x.saves(1, 0), 39);
        due("with 5 all stays", x.saves(1, 5), 0);
        due("with 5 what was 0's costs less", x.saves(5, 0), 21);
        due("and the other way what 5 has none of", x.saves(0, 5), 0);
        due("one", x.saves(2, 2), -100001);
        due("6", x.saves(6, 0), -100001);
        due("6", x.saves(0, 6), -100001);
        due("-1", x.saves(-1, 0), -100001);
        due("-1", x.saves(0, -1), -100001);
        due("none is made", x.count(2), 0);
        x.person(5, 1, 99);
        due("below 0", x.saves(5, 2), -96);
    }

    private static void match() {
        promise = "28 match";
        QuarrelSales x = with("0555555;1555555", "23,45");
        due("first of like ones", x.match(), 23);
        x.person(5, 1, 4);
        due("most", x.match(), 45);
        x.suit(12, 14);
        x.suit(12, 14);
        due("2 and 4 end two", x.match(), 24);
        x = with("0555555;1555555", "23");
        x.person(2, 1, 0);
        x.person(3, 1, 0);
        due("all save nothing", x.match(), 1);
        x.person(3, 1, 9);
        due("2 and 3 save 9, 0 and 3 save 6", x.match(), 23);
        due("nothing there", new QuarrelSales().match(), 1);
    }

    private static void against() {
        promise = "29 against";
        QuarrelSales x = with("0555555;1555555;-555555", "ab,a2,bc");
        due("thing 3", x.against(3, 0, 4), -100001);
        due("thing -1", x.against(-1, 0, 4), -100001);
        due("to 6", x.against(0, 6, 4), -100001);
        due("who 6", x.against(0, 1, 6), -100001);
        due("who -1", x.against(0, 1, -1), -100001);
        due("who sells", x.against(0, 1, 0), -100001);
        due("who buys", x.against(0, 1, 1), -100001);
        due("who sells and buys", x.against(0, 0, 0), -100001);
        due("he has it", x.against(0, 0, 2), -100002);
        due("nothing", x.against(0, 1, 2), 0);
        due("nothing", x.against(2, 0, 1), 0);
        // a SALE leaves who neither sells nor buys in the SUITS in which he stood
        due("nothing", x.against(0, 2, 1), 0);
        due("none is made", x.count(4), 0);
    }

    private static void pays() {
        promise = "30 pays";
        QuarrelSales x = with("0123456;1123456;-888888", "ab,a2,bc");
        x.person(2, 1, 4);
        due("16 * (3 - 1), no suit more, 5 * 2 * 4", x.pays(0, 2, 1, 2, 5), 16 * 2 - 5 * 8);
        due("one ends, one comes", x.pays(0, 1, 0, 9, 0), 16 * 2);
        due("a suit more", x.pays(0, 3, 0, 9, 0), 16 * 4 - 16 * 9 * 3 * 2);
        due("one less, one more, all chances", x.pays(1, 0, 3, 1, 16), 16 * -2 - 0 - 16 * 3);
        x.suit(2, 11);
        due("two less", x.pays(2, 1, 8, 3, 0), 16 * 3 * 3 * 2);
        due("purses are not looked at", x.pays(2, 1, 999, 1, 0), 16 * (8 - 999) + 16 * 3 * 2);
        due("thing 3", x.pays(3, 0, 0, 1, 0), -100001);
        due("to 6", x.pays(0, 6, 0, 1, 0), -100001);
        due("to -1", x.pays(0, -1, 0, 1, 0), -100001);
        due("price -1", x.pays(0, 1, -1, 1, 0), -100001);
        due("price 1000", x.pays(0, 1, 1000, 1, 0), -100001);
        due("y 0", x.pays(0, 1, 0, 0, 0), -100001);
        due("y 10", x.pays(0, 1, 0, 10, 0), -100001);
        due("c -1", x.pays(0, 1, 0, 1, -1), -100001);
        due("c 17", x.pays(0, 1, 0, 1, 17), -100001);
        due("he has it", x.pays(0, 0, 0, 1, 0), -100002);
        due("bad ahead of not", x.pays(0, 0, 0, 1, 17), -100001);
        due("none is made", x.count(4), 0);
    }

    private static void image() {
        promise = "31, 32 image, restore";
        QuarrelSales x = with("0123456;1123456", "ab,a2,01");
        x.sheet(0, 2, 2);
        x.type(0x6230L, 2);
        due("image", x.image(), 1);
        String before = state(x);
        x.person(0, 0, 7);
        x.person(0, 1, 8);
        x.rule(0, 1);
        x.rule(1, 1);
        x.sale(0, 1, 3);
        x.give(1);
        x.wed(3, 4);
        x.part(0, 1);
        x.worth(0, 0, 77);
        x.suit(12, 13);
        x.drop(0);
        x.type(0x2C6132L, 3);
        due("restore", x.restore(), 1);
        same("restore", state(x), before);
        due("law 0", x.rule(0, 0), 0);
        due("law 1", x.rule(1, 0), 0);
        due("cost", x.person(0, 1, 3), 3);
        due("worth", x.worth(0, 0, 1), 1);
        due("the sheet is as it is now", x.drop(0), -11);
        due("the tape is as it is now", x.suits(), 2);
        due("again", x.restore(), 1);
        same("again", state(x), before);
        village(x, "5555555");
        due("again", x.restore(), 1);
        same("behind a village", state(x), before);
        x.sale(1, 0, 0);
        String later = state(x);
        due("a later image", x.image(), 1);
        x.give(0);
        due("restore", x.restore(), 1);
        same("a later image", state(x), later);
        due("none", new QuarrelSales().restore(), -4);
    }

    private static void deal() {
        promise = "33 deal";
        QuarrelSales x = with("0555555;1555555", "ab");
        due("nothing there", x.deal(0, 0, 0, 1), -11);
        put(x, 0, 0, 9, 0, 1, 5, 1, 2, 6, 1, 2, 0, 0, 3, 0);
        due("sheet 4", x.deal(4, 0, 0, 1), -1);
        due("sheet -1", x.deal(-1, 0, 0, 1), -1);
        due("lane 3", x.deal(0, 3, 0, 1), -1);
        due("lane -1", x.deal(0, -1, 0, 1), -1);
        due("n 0", x.deal(0, 0, 0, 0), -1);
        due("n 9", x.deal(0, 0, 0, 9), -1);
        due("bad ahead of null", x.deal(1, 0, 0, 9), -1);
        due("cast", x.deal(0, 1, -1, 1), -12);
        due("i -1", x.deal(0, 0, -1, 1), -13);
        due("i 11 of 13", x.deal(0, 0, 11, 1), -13);
        due("n 5 of 13", x.deal(0, 0, 0, 5), -13);
        due("the third to one who has it, and none is made by index", x.count(4), 0);
        due("9 is no thing", x.deal(0, 0, 0, 4), 0);
        due("two, then one can't", x.deal(0, 0, 1, 4), 2);
        due("hand", x.hand(0), 1);
        due("hand", x.hand(1), 2);
        due("purse", x.purse(1), 51);
        due("sales", x.count(4), 2);
        due("ended", x.count(2), 1);
        due("the last", x.deal(0, 0, 10, 1), 1);
        due("behind the last", x.deal(0, 0, 13, 1), -13);
        put(x, 1, 2, 0, 4, 99, 0, 4, 9);
        due("no purse for it", x.deal(1, 2, 0, 2), 0);
        due("the other one", x.deal(1, 2, 3, 1), 1);
        x.drop(1);
        due("dropped", x.deal(1, 2, 0, 1), -11);
        put(x, 2, 1, 0, 0, 0, 0, 1, 0, 0, 0, 0, 0, 1, 0, 0, 0, 0, 0, 1, 0, 0, 0, 0, 0, 1, 0);
        due("eight", x.deal(2, 1, 0, 8), 8);
    }

    private static void sheets() {
        promise = "34 sheet";
        QuarrelSales x = new QuarrelSales();
        due("24", x.sheet(3, 2, 24), 24);
        due("0", x.sheet(2, 0, 0), 0);
        due("25", x.sheet(3, 2, 25), -1);
        due("-1", x.sheet(3, 2, -1), -14);
        due("sheet 4", x.sheet(4, 0, -1), -1);
        due("sheet -1", x.sheet(-1, 0, 1), -1);
        due("lane 3", x.sheet(0, 3, -1), -1);
        due("lane -1", x.sheet(0, -1, 1), -1);
        due("refused ones leave it", x.item(3, 2, 23, 1), 1);
        due("another lane", x.sheet(3, 0, 1), 1);
        due("the old lane", x.item(3, 2, 0, 1), -12);
        promise = "35 drop";
        due("one", x.drop(3), 1);
        due("nothing", x.drop(3), -11);
        due("none", x.drop(2), 0);
        due("sheet 4", x.drop(4), -1);
        due("sheet -1", x.drop(-1), -1);
        promise = "36 item";
        due("nothing", x.item(0, 0, 0, 0), -11);
        x.sheet(0, 0, 3);
        due("item", x.item(0, 0, 2, 5), 1);
        due("sheet 4", x.item(4, 0, 0, 0), -1);
        due("sheet -1", x.item(-1, 0, 0, 0), -1);
        due("lane 3", x.item(0, 3, 0, 0), -1);
        due("lane 3 of nothing", x.item(1, 3, 0, 0), -1);
        due("lane -1", x.item(0, -1, 0, 0), -1);
        due("cast ahead of index", x.item(0, 1, 3, 0), -12);
        due("3 of 3", x.item(0, 0, 3, 0), -13);
        due("-1", x.item(0, 0, -1, 0), -13);
        lowestBits(0, 256 + 2, true);
        lowestBits(0, -254, true);
        lowestBits(1, 65536 + 2, true);
        lowestBits(1, 256 + 2, false);
        lowestBits(2, 65536 + 2, false);
        lowestBits(2, 2, true);
        newRow();
    }

    /** Whether an item reads as 2 when it is dealt as a buyer. */
    private static void lowestBits(int lane, int v, boolean isTwo) {
        QuarrelSales x = with("0555555", "");
        put(x, 0, lane, 0, v, 0);
        due("lane " + lane + " of " + v, x.deal(0, lane, 0, 1), isTwo ? 1 : 0);
        due("hand", x.hand(0), isTwo ? 2 : 0);
        put(x, 0, lane, 0, 3, 128);
        x.person(3, 0, 200);
        due("lane " + lane + " of 128", x.deal(0, lane, 0, 1), lane == 0 ? 0 : 1);
    }

    private static void newRow() {
        QuarrelSales x = with("5555555", "");
        put(x, 0, 0, 1, 1, 1);
        x.sheet(0, 0, 3);
        due("a new row is of 0", x.deal(0, 0, 0, 1), 1);
        due("hand", x.hand(0), 0);
    }

    private static void copy() {
        promise = "37 copy";
        QuarrelSales x = with("0555555", "");
        put(x, 0, 0, 0, 1, 2, 3, 4, 5);
        due("from nothing", x.copy(1, 0, 0, 0, 0), -11);
        due("to nothing", x.copy(0, 0, 1, 0, 0), -11);
        due("sheet 4", x.copy(4, 0, 0, 0, 0), -1);
        due("sheet -1", x.copy(0, 0, -1, 0, 0), -1);
        x.sheet(1, 1, 6);
        due("unlike lanes", x.copy(0, 9, 1, 9, -1), -12);
        x.sheet(1, 0, 3);
        due("n -1", x.copy(0, 1, 1, 1, -1), -13);
        due("none, at the ends", x.copy(0, 6, 1, 3, 0), 0);
        due("none, i above", x.copy(0, 7, 1, 3, 0), -13);
        due("none, j above", x.copy(0, 6, 1, 4, 0), -13);
        due("i below 0", x.copy(0, -1, 1, 0, 1), -13);
        due("j below 0", x.copy(0, 0, 1, -1, 1), -13);
        due("too many there", x.copy(0, 0, 1, 0, 4), -13);
        due("too many here", x.copy(0, 4, 1, 0, 3), -13);
        due("so many that it turns", x.copy(0, 1, 1, 1, Integer.MAX_VALUE), -13);
        due("so few that it turns", x.copy(0, 1, 1, 1, Integer.MIN_VALUE), -13);
        due("i far above", x.copy(0, Integer.MAX_VALUE, 1, 0, 1), -13);
        due("three", x.copy(0, 0, 1, 0, 3), 3);
        due("they are there", x.deal(1, 0, 0, 1), 1);
        due("hand", x.hand(0), 1);
        due("purse", x.purse(1), 48);
        // 0 1 2 3 4 5 becomes 0 0 1 2 3 4, not 0 0 0 0 0 0
        due("the same", x.copy(0, 0, 0, 1, 5), 5);
        x.sale(0, 0, 0);
        due("0 to 1 for 2", x.deal(0, 0, 1, 1), 1);
        due("purse", x.purse(1), 46);
        // back: 0 1 2 3 4 4
        due("back", x.copy(0, 1, 0, 0, 5), 5);
        x.sale(0, 0, 0);
        due("0 to 1 for 2", x.deal(0, 0, 0, 1), 1);
        due("purse", x.purse(1), 44);
    }

    private static void constants() {
        promise = "constants";
        due("BAD", QuarrelSales.BAD, -1);
        due("NOT", QuarrelSales.NOT, -2);
        due("FULL", QuarrelSales.FULL, -3);
        due("NONE", QuarrelSales.NONE, -4);
        due("NULL", QuarrelSales.NULL, -11);
        due("CAST", QuarrelSales.CAST, -12);
        due("INDEX", QuarrelSales.INDEX, -13);
        due("SIZE", QuarrelSales.SIZE, -14);
    }

    public static void main(String[] args) {
        newObject();
        person();
        rule();
        thing();
        worth();
        suit();
        told();
        handAndPurse();
        value();
        tape();
        village();
        suitsText();
        count();
        sale();
        swap();
        give();
        wed();
        part();
        gain();
        agreed();
        rest();
        group();
        never();
        fewest();
        best();
        saves();
        match();
        against();
        pays();
        image();
        deal();
        sheets();
        copy();
        constants();
        end();
    }
}
