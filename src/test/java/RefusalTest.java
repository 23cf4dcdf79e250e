import java.util.ArrayList;
import java.util.List;

/**
 * Each number of each call at both ends of what is taken and outside of them, each refusal, which of
 * two comes first. Behind every refused call the object is held against one that was never asked.
 */
public final class RefusalTest extends Bench {
    private interface Of {
        int on(QuarrelSales x, int v);
    }

    /** Nothing has room here: 8 THINGS, 12 SUITS, a TAPE of 80 bytes. */
    private static QuarrelSales full() {
        QuarrelSales x = with("0000000;1111111;2222222;3333333;4444444;5555555;-666666;0777777",
            "ab,bc,cd,de,ef,fg,gh,ah,0b,a0,12,34");
        type(x, "b4" + ",01".repeat(26));
        return x;
    }

    private static QuarrelSales none() {
        return new QuarrelSales();
    }

    private static void refused(String call, Make make, Call c, int want) {
        QuarrelSales x = make.made();
        due(call, c.on(x), want);
        same(call, all(x), all(make.made()));
    }

    private static int[] outside(int least, int most) {
        long[] far = {least - 1L, most + 1L, least - 2L, most + 2L, least - 256L, most + 256L, least + 256L, least - 65536L,
            least + 65536L, most + 65536L, least + (1L << 31), least - (1L << 31), Integer.MIN_VALUE,
            Integer.MIN_VALUE + 1L, Integer.MAX_VALUE, Integer.MAX_VALUE - 1L};
        List<Integer> found = new ArrayList<>();
        for (long v : far) {
            if ((int) v == v && (v < least || v > most)) {
                found.add((int) v);
            }
        }
        int[] row = new int[found.size()];
        for (int k = 0; k < row.length; k++) {
            row[k] = found.get(k);
        }
        return row;
    }

    /** v is taken from least to most (other refusals may come then), and refused below and above. */
    private static void ends(String call, int least, int most, int refusal, Of of) {
        for (int v : new int[] {least, most}) {
            hold(call + " takes " + v, of.on(busy(), v) != refusal);
        }
        for (int v : outside(least, most)) {
            refused(call + " of " + v, Bench::busy, x -> of.on(x, v), refusal);
        }
    }

    private static void peopleAndLaws() {
        promise = "2 person";
        ends("person(v, 0, 1)", 0, 5, BAD, (x, v) -> x.person(v, 0, 1));
        ends("person(v, 1, 1)", 0, 5, BAD, (x, v) -> x.person(v, 1, 1));
        ends("person(2, v, 1)", 0, 1, BAD, (x, v) -> x.person(2, v, 1));
        ends("person(2, 0, v)", 0, 999, BAD, (x, v) -> x.person(2, 0, v));
        ends("person(2, 1, v)", 0, 99, BAD, (x, v) -> x.person(2, 1, v));
        promise = "3 rule";
        ends("rule(v, 1)", 0, 1, BAD, (x, v) -> x.rule(v, 1));
        ends("rule(0, v)", 0, 1, BAD, (x, v) -> x.rule(0, v));
        ends("rule(1, v)", 0, 1, BAD, (x, v) -> x.rule(1, v));
        promise = "9 purse";
        ends("purse(v)", 0, 5, BAD, QuarrelSales::purse);
        promise = "10 value";
        ends("value(v)", 0, 5, BAD_SO, QuarrelSales::value);
        promise = "14 count";
        ends("count(v)", 0, 4, BAD, QuarrelSales::count);
    }

    private static void things() {
        promise = "4 thing";
        ends("thing(v)", 0, 6, BAD, QuarrelSales::thing);
        refused("thing(0), a ninth", RefusalTest::full, x -> x.thing(0), FULL);
        refused("thing(6), a ninth", RefusalTest::full, x -> x.thing(6), FULL);
        refused("thing(7), a ninth: BAD first", RefusalTest::full, x -> x.thing(7), BAD);
        refused("thing(-1), a ninth: BAD first", RefusalTest::full, x -> x.thing(-1), BAD);
        promise = "5 worth";
        ends("worth(v, 0, 1)", 0, 3, BAD, (x, v) -> x.worth(v, 0, 1));
        ends("worth(1, v, 1)", 0, 5, BAD, (x, v) -> x.worth(1, v, 1));
        ends("worth(1, 4, v)", 0, 99, BAD, (x, v) -> x.worth(1, 4, v));
        refused("worth where nothing is there", RefusalTest::none, x -> x.worth(0, 0, 1), BAD);
        promise = "8 hand";
        ends("hand(v)", 0, 3, BAD, QuarrelSales::hand);
        refused("hand where nothing is there", RefusalTest::none, x -> x.hand(0), BAD);
        due("hand(7) of 8", full().hand(7), 0);
        refused("hand(8) of 8", RefusalTest::full, x -> x.hand(8), BAD);
    }

    private static void suitsBetweenSides() {
        promise = "6 suit";
        for (int v : new int[] {-1, 4, 7, 8, 9, 16, 17, 256, 266, 1 << 16, Integer.MIN_VALUE, Integer.MIN_VALUE + 10, Integer.MAX_VALUE}) {
            refused("suit(" + v + ", 10)", Bench::busy, x -> x.suit(v, 10), BAD);
            refused("suit(10, " + v + ")", Bench::busy, x -> x.suit(10, v), BAD);
            refused("suit(" + v + ", " + v + ")", Bench::busy, x -> x.suit(v, v), BAD);
        }
        for (int v : new int[] {0, 3, 10, 15}) {
            refused("suit(" + v + ", " + v + ")", Bench::busy, x -> x.suit(v, v), BAD);
            due("suit(" + v + ", 14)", busy().suit(v, 14), 5);
            due("suit(14, " + v + ")", busy().suit(14, v), 5);
        }
        due("suit(0, 1) where nothing is there", none().suit(0, 1), BAD);
        due("suit(10, 15) where nothing is there", none().suit(10, 15), 0);
        refused("suit(0, 1), a thirteenth", RefusalTest::full, x -> x.suit(0, 1), FULL);
        refused("suit(7, 15), a thirteenth", RefusalTest::full, x -> x.suit(7, 15), FULL);
        refused("suit(8, 15), a thirteenth: BAD first", RefusalTest::full, x -> x.suit(8, 15), BAD);
        refused("suit(7, 7), a thirteenth: BAD first", RefusalTest::full, x -> x.suit(7, 7), BAD);
        promise = "7 told";
        ends("told(v, 0)", 0, 4, BAD, (x, v) -> x.told(v, 0));
        ends("told(v, 4)", 0, 4, BAD, (x, v) -> x.told(v, 4));
        ends("told(2, v)", 0, 4, BAD, (x, v) -> x.told(2, v));
        refused("told where nothing is there", RefusalTest::none, x -> x.told(0, 0), BAD);
        due("told(11, 1) of 12", full().told(11, 1), 14);
        refused("told(12, 1) of 12", RefusalTest::full, x -> x.told(12, 1), BAD);
    }

    private static void typing() {
        promise = "11 type";
        ends("type(.., v)", 1, 8, BAD, (x, v) -> x.type(0x2020202020202020L, v));
        for (int k = 0; k < 8; k++) {
            for (int b : new int[] {0, 1, 31, 127, 128, 160, 255}) {
                long w = 0x4141414141414141L & ~(255L << 8 * k) | (long) b << 8 * k;
                for (int n = 1; n <= 8; n++) {
                    int m = n;
                    if (n > k) {
                        refused("type of a byte " + b + " at " + k + ", " + n, Bench::busy, x -> x.type(w, m), BAD);
                    } else {
                        due("type of a byte " + b + " above " + n, busy().type(w, n), 2 + n);
                    }
                }
            }
            for (int b : new int[] {32, 126}) {
                long w = 0x4141414141414141L & ~(255L << 8 * k) | (long) b << 8 * k;
                due("type of a byte " + b + " at " + k, busy().type(w, 8), 10);
            }
        }
        refused("type(-1, 1)", Bench::busy, x -> x.type(-1, 1), BAD);
        refused("type(least, 8)", Bench::busy, x -> x.type(Long.MIN_VALUE, 8), BAD);
        refused("an 81st byte", RefusalTest::full, x -> x.type(65, 1), FULL);
        refused("an 88th byte", RefusalTest::full, x -> x.type(0x4141414141414141L, 8), FULL);
        refused("an 81st byte that is none: BAD first", RefusalTest::full, x -> x.type(31, 1), BAD);
        refused("no byte more: BAD first", RefusalTest::full, x -> x.type(65, 0), BAD);
        refused("nine bytes more: BAD first", RefusalTest::full, x -> x.type(65, 9), BAD);
    }

    private static void sales() {
        promise = "15 sale";
        ends("sale(v, 5, 0)", 0, 3, BAD, (x, v) -> x.sale(v, 5, 0));
        ends("sale(1, v, 0)", 0, 5, BAD, (x, v) -> x.sale(1, v, 0));
        ends("sale(1, 0, v)", 0, 999, BAD, (x, v) -> x.sale(1, 0, v));
        refused("sale to who has it", Bench::busy, x -> x.sale(1, 1, 0), NOT);
        refused("sale to who has it, and could not pay", Bench::busy, x -> x.sale(1, 1, 999), NOT);
        due("sale for all he has", busy().sale(0, 1, 400), 1);
        refused("sale for one more", Bench::busy, x -> x.sale(0, 1, 401), NOT);
        refused("sale to who has it, for 1000: BAD first", Bench::busy, x -> x.sale(1, 1, 1000), BAD);
        refused("sale to who has it, for -1: BAD first", Bench::busy, x -> x.sale(1, 1, -1), BAD);
        refused("sale where nothing is there", RefusalTest::none, x -> x.sale(0, 1, 0), BAD);
        promise = "16 swap";
        ends("swap(v, 2)", 0, 3, BAD, (x, v) -> x.swap(v, 2));
        ends("swap(2, v)", 0, 3, BAD, (x, v) -> x.swap(2, v));
        refused("swap of two in one hand", Bench::busy, x -> x.swap(0, 3), NOT);
        refused("swap with itself", Bench::busy, x -> x.swap(1, 1), NOT);
        refused("swap of the parish's with itself", Bench::busy, x -> x.swap(2, 2), NOT);
        refused("swap of what is not there with itself: BAD", Bench::busy, x -> x.swap(4, 4), BAD);
        promise = "17 give";
        ends("give(v)", 0, 3, BAD, QuarrelSales::give);
        refused("give of the parish's", Bench::busy, x -> x.give(2), NOT);
        refused("give where nothing is there", RefusalTest::none, x -> x.give(0), BAD);
    }

    private static void weddingsAndParts() {
        promise = "18 wed";
        ends("wed(v, 2)", 0, 5, BAD, (x, v) -> x.wed(v, 2));
        ends("wed(2, v)", 0, 5, BAD, (x, v) -> x.wed(2, v));
        for (int p = -1; p < 7; p++) {
            int q = p;
            refused("wed(" + p + ", " + p + ")", Bench::busy, x -> x.wed(q, q), BAD);
        }
        promise = "19 part";
        ends("part(v, 0)", 0, 3, BAD, (x, v) -> x.part(v, 0));
        ends("part(0, v)", 0, 31, BAD, (x, v) -> x.part(0, v));
        refused("part of a sixth suit alone", Bench::busy, x -> x.part(0, 32), BAD);
        refused("part of the highest bit", Bench::busy, x -> x.part(0, 1 << 31), BAD);
        refused("part where nothing is there", RefusalTest::none, x -> x.part(0, 0), BAD);
        refused("part, a ninth", RefusalTest::full, x -> x.part(0, 0), FULL);
        refused("part, a ninth with all suits", RefusalTest::full, x -> x.part(7, 4095), FULL);
        refused("part, a ninth with a thirteenth suit: BAD first", RefusalTest::full, x -> x.part(7, 4096), BAD);
        refused("part of an eighth thing, a ninth: BAD first", RefusalTest::full, x -> x.part(8, 0), BAD);
    }

    private static void gains() {
        promise = "20 gain";
        ends("gain(v, 5, 1)", 0, 3, BAD_SO, (x, v) -> x.gain(v, 5, 1));
        ends("gain(1, v, 1)", 0, 5, BAD_SO, (x, v) -> x.gain(1, v, 1));
        ends("gain(1, 5, v)", 0, 1, BAD_SO, (x, v) -> x.gain(1, 5, v));
        refused("gain of who has it", Bench::busy, x -> x.gain(1, 1, 0), NOT_SO);
        refused("gain of who has it", Bench::busy, x -> x.gain(1, 1, 1), NOT_SO);
        refused("gain of who has it, what 2: BAD first", Bench::busy, x -> x.gain(1, 1, 2), BAD_SO);
        refused("gain of a sale to the parish, which has it: BAD", Bench::busy, x -> x.gain(2, 6, 0), BAD_SO);
        promise = "21 agreed";
        ends("agreed(v, 5)", 0, 3, BAD, (x, v) -> x.agreed(v, 5));
        ends("agreed(1, v)", 0, 5, BAD, (x, v) -> x.agreed(1, v));
        refused("agreed of the parish's", Bench::busy, x -> x.agreed(2, 0), NOT);
        refused("agreed of who has it", Bench::busy, x -> x.agreed(1, 1), NOT);
        refused("agreed of the parish's to the parish: BAD first", Bench::busy, x -> x.agreed(2, 6), BAD);
        refused("agreed at none", Bench::busy, x -> x.agreed(1, 5), NONE);
        promise = "22 rest";
        ends("rest(v)", 1, 60, BAD, QuarrelSales::rest);
    }

    private static void groupsAndRows() {
        promise = "23 group";
        ends("group(v)", -1, 3, BAD, QuarrelSales::group);
        due("group(7) of 8", full().group(7) >> 7 & 1, 1);
        refused("group(8) of 8", RefusalTest::full, x -> x.group(8), BAD);
        refused("group where nothing is there", RefusalTest::none, x -> x.group(0), BAD);
        promise = "25 fewest";
        ends("fewest(v)", -1, 2, BAD, QuarrelSales::fewest);
        for (int i = -1; i < 3; i++) {
            int at = i;
            refused("fewest(" + i + ") not by three", RefusalTest::full, x -> x.fewest(at), NONE);
        }
        refused("fewest(3) not by three: BAD first", RefusalTest::full, x -> x.fewest(3), BAD);
        refused("fewest(-2) not by three: BAD first", RefusalTest::full, x -> x.fewest(-2), BAD);
        refused("fewest(0) of none", RefusalTest::none, x -> x.fewest(0), NONE);
        promise = "26 best";
        ends("best(v, -1)", 1, 9, BAD, (x, v) -> x.best(v, -1));
        ends("best(1, v)", -2, 1, BAD, (x, v) -> x.best(1, v));
        refused("best(1, 0) of none", RefusalTest::none, x -> x.best(1, 0), NONE);
        refused("best(1, 1) of none", RefusalTest::none, x -> x.best(1, 1), NONE);
        refused("best(1, 2) of none: BAD first", RefusalTest::none, x -> x.best(1, 2), BAD);
        refused("best(0, 0) of none: BAD first", RefusalTest::none, x -> x.best(0, 0), BAD);
        refused("best(10, 1) of none: BAD first", RefusalTest::none, x -> x.best(10, 1), BAD);
    }

    private static void whatItIsWorth() {
        promise = "27 saves";
        ends("saves(v, 2)", 0, 5, BAD_SO, (x, v) -> x.saves(v, 2));
        ends("saves(2, v)", 0, 5, BAD_SO, (x, v) -> x.saves(2, v));
        for (int p = -1; p < 7; p++) {
            int q = p;
            refused("saves(" + p + ", " + p + ")", Bench::busy, x -> x.saves(q, q), BAD_SO);
        }
        promise = "29 against";
        ends("against(v, 3, 4)", 0, 3, BAD_SO, (x, v) -> x.against(v, 3, 4));
        ends("against(1, v, 4)", 0, 5, BAD_SO, (x, v) -> x.against(1, v == 4 ? 3 : v, 4));
        ends("against(1, 3, v)", 0, 5, BAD_SO, (x, v) -> x.against(1, 3, v));
        refused("against who sells", Bench::busy, x -> x.against(1, 3, 1), BAD_SO);
        refused("against who buys", Bench::busy, x -> x.against(1, 3, 3), BAD_SO);
        refused("against who buys of the parish", Bench::busy, x -> x.against(2, 3, 3), BAD_SO);
        refused("against the parish, which sells", Bench::busy, x -> x.against(2, 3, 6), BAD_SO);
        refused("against who has it: BAD first", Bench::busy, x -> x.against(1, 1, 1), BAD_SO);
        refused("against another, of who has it", Bench::busy, x -> x.against(1, 1, 0), NOT_SO);
        promise = "30 pays";
        ends("pays(v, 5, 0, 1, 0)", 0, 3, BAD_SO, (x, v) -> x.pays(v, 5, 0, 1, 0));
        ends("pays(1, v, 0, 1, 0)", 0, 5, BAD_SO, (x, v) -> x.pays(1, v, 0, 1, 0));
        ends("pays(1, 3, v, 1, 0)", 0, 999, BAD_SO, (x, v) -> x.pays(1, 3, v, 1, 0));
        ends("pays(1, 3, 0, v, 0)", 1, 9, BAD_SO, (x, v) -> x.pays(1, 3, 0, v, 0));
        ends("pays(1, 3, 0, 1, v)", 0, 16, BAD_SO, (x, v) -> x.pays(1, 3, 0, 1, v));
        refused("pays of who has it", Bench::busy, x -> x.pays(1, 1, 0, 1, 0), NOT_SO);
        refused("pays of who has it, price 1000: BAD first", Bench::busy, x -> x.pays(1, 1, 1000, 1, 0), BAD_SO);
        refused("pays of who has it, y 0: BAD first", Bench::busy, x -> x.pays(1, 1, 0, 0, 0), BAD_SO);
        refused("pays of who has it, c 17: BAD first", Bench::busy, x -> x.pays(1, 1, 0, 1, 17), BAD_SO);
    }

    private static void askedOnly() {
        promise = "7 .. 30 what only asks changes nothing";
        Call[] calls = {x -> x.told(0, 0), x -> x.hand(0), x -> x.purse(0), x -> x.value(0), x -> x.count(3),
            x -> x.gain(1, 0, 0), x -> x.gain(0, 1, 1), x -> x.agreed(0, 4), x -> x.agreed(1, 0), x -> x.group(-1),
            x -> x.group(0), x -> x.never(), x -> x.fewest(-1), x -> x.fewest(0), x -> x.best(9, -2), x -> x.best(9, 1),
            x -> x.saves(0, 1), x -> x.match(), x -> x.against(0, 1, 3), x -> x.pays(0, 1, 9, 9, 9)};
        String[] wanted = {all(busy()), all(full()), all(byOtherLaws())};
        for (int k = 0; k < calls.length; k++) {
            Make[] makes = {Bench::busy, RefusalTest::full, RefusalTest::byOtherLaws};
            for (int m = 0; m < makes.length; m++) {
                QuarrelSales x = makes[m].made();
                int first = calls[k].on(x);
                due("call " + k + " again", calls[k].on(x), first);
                same("call " + k, all(x), wanted[m]);
            }
        }
    }

    private static QuarrelSales byOtherLaws() {
        QuarrelSales x = busy();
        x.rule(0, 1);
        x.rule(1, 1);
        return x;
    }

    private static void images() {
        promise = "32 restore";
        refused("restore where nothing is there", RefusalTest::none, x -> x.restore(), NONE);
        refused("restore of none", RefusalTest::full, x -> x.restore(), NONE);
        due("restore", busy().restore(), 1);
    }

    private static void dealing() {
        promise = "33 deal";
        ends("deal(v, 2, 0, 1)", 0, 3, BAD, (x, v) -> x.deal(v, 2, 0, 1));
        ends("deal(2, v, 0, 1)", 0, 2, BAD, (x, v) -> x.deal(2, v, 0, 1));
        ends("deal(2, 2, v, 1)", 0, 2, INDEX, (x, v) -> x.deal(2, 2, v, 1));
        ends("deal(2, 2, 0, v)", 1, 8, BAD, (x, v) -> x.deal(2, 2, 0, v));
        refused("deal of nothing", Bench::busy, x -> x.deal(3, 0, 0, 1), NULL);
        for (int lane = 1; lane < 3; lane++) {
            int taken = lane;
            refused("deal of nothing, lane " + lane, Bench::busy, x -> x.deal(3, taken, 0, 1), NULL);
            refused("item of nothing, lane " + lane, Bench::busy, x -> x.item(3, taken, 0, 1), NULL);
        }
        refused("deal of nothing, n 0: BAD first", Bench::busy, x -> x.deal(3, 0, 0, 0), BAD);
        refused("deal of nothing, i -1: NULL first", Bench::busy, x -> x.deal(3, 0, -1, 1), NULL);
        refused("deal of another lane", Bench::busy, x -> x.deal(0, 1, 0, 1), CAST);
        refused("deal of another lane", Bench::busy, x -> x.deal(1, 0, 0, 1), CAST);
        refused("deal of another lane, i -1: CAST first", Bench::busy, x -> x.deal(2, 1, -1, 1), CAST);
        refused("deal of another lane, n 9: BAD first", Bench::busy, x -> x.deal(2, 1, 0, 9), BAD);
        refused("deal of two of 4 items", Bench::busy, x -> x.deal(0, 0, 0, 2), INDEX);
        refused("deal of two of 5 items", Bench::busy, x -> x.deal(2, 2, 0, 2), INDEX);
        refused("deal from the end on", Bench::busy, x -> x.deal(1, 1, 3, 1), INDEX);
        refused("deal of one that can't be made", Bench::busy, x -> x.deal(1, 1, 0, 1), 0);
    }

    private static void rowsOfSheets() {
        promise = "34 sheet";
        ends("sheet(v, 0, 1)", 0, 3, BAD, (x, v) -> x.sheet(v, 0, 1));
        ends("sheet(0, v, 1)", 0, 2, BAD, (x, v) -> x.sheet(0, v, 1));
        for (int n : outside(Integer.MIN_VALUE, 24)) {
            refused("sheet(0, 0, " + n + ")", Bench::busy, x -> x.sheet(0, 0, n), BAD);
        }
        for (int n : new int[] {-1, -2, -256, Integer.MIN_VALUE}) {
            refused("sheet(1, 1, " + n + ")", Bench::busy, x -> x.sheet(1, 1, n), SIZE);
            refused("sheet(3, 0, " + n + ") of nothing", Bench::busy, x -> x.sheet(3, 0, n), SIZE);
            refused("sheet(4, 0, " + n + "): BAD first", Bench::busy, x -> x.sheet(4, 0, n), BAD);
            refused("sheet(0, 3, " + n + "): BAD first", Bench::busy, x -> x.sheet(0, 3, n), BAD);
        }
        promise = "35 drop";
        ends("drop(v)", 0, 3, BAD, QuarrelSales::drop);
        refused("drop of nothing", Bench::busy, x -> x.drop(3), NULL);
        promise = "36 item";
        ends("item(v, 0, 0, 1)", 0, 3, BAD, (x, v) -> x.item(v, 0, 0, 1));
        ends("item(1, v, 0, 1)", 0, 2, BAD, (x, v) -> x.item(1, v, 0, 1));
        ends("item(0, 0, v, 1)", 0, 3, INDEX, (x, v) -> x.item(0, 0, v, 1));
        ends("item(1, 1, v, 1)", 0, 2, INDEX, (x, v) -> x.item(1, 1, v, 1));
        ends("item(2, 2, v, 1)", 0, 4, INDEX, (x, v) -> x.item(2, 2, v, 1));
        refused("item of nothing", Bench::busy, x -> x.item(3, 0, 0, 1), NULL);
        refused("item of nothing, i -1: NULL first", Bench::busy, x -> x.item(3, 2, -1, 1), NULL);
        refused("item of nothing, lane 3: BAD first", Bench::busy, x -> x.item(3, 3, 0, 1), BAD);
        refused("item of another lane", Bench::busy, x -> x.item(0, 2, 0, 1), CAST);
        refused("item of another lane, i 9: CAST first", Bench::busy, x -> x.item(2, 0, 9, 1), CAST);
    }

    private static void copies() {
        promise = "37 copy";
        ends("copy(v, 0, 1, 0, 1)", 0, 3, BAD, (x, v) -> x.copy(v, 0, 1, 0, 1));
        ends("copy(1, 0, v, 0, 1)", 0, 3, BAD, (x, v) -> x.copy(1, 0, v, 0, 1));
        ends("copy(0, v, 0, 1, 1)", 0, 3, INDEX, (x, v) -> x.copy(0, v, 0, 1, 1));
        ends("copy(0, 1, 0, v, 1)", 0, 3, INDEX, (x, v) -> x.copy(0, 1, 0, v, 1));
        ends("copy(0, v, 0, 0, 0)", 0, 4, INDEX, (x, v) -> x.copy(0, v, 0, 0, 0));
        ends("copy(0, 0, 0, v, 0)", 0, 4, INDEX, (x, v) -> x.copy(0, 0, 0, v, 0));
        ends("copy(0, 0, 0, 0, v)", 0, 4, INDEX, (x, v) -> x.copy(0, 0, 0, 0, v));
        ends("copy(2, 2, 2, 0, v)", 0, 3, INDEX, (x, v) -> x.copy(2, 2, 2, 0, v));
        ends("copy(2, 0, 2, 2, v)", 0, 3, INDEX, (x, v) -> x.copy(2, 0, 2, 2, v));
        refused("copy of nothing", Bench::busy, x -> x.copy(3, 0, 0, 0, 1), NULL);
        refused("copy to nothing", Bench::busy, x -> x.copy(0, 0, 3, 0, 1), NULL);
        for (int sheet = 1; sheet < 3; sheet++) {
            int other = sheet;
            refused("copy of nothing to lane " + sheet + ": NULL first", Bench::busy, x -> x.copy(3, 0, other, 0, 1), NULL);
            refused("copy to nothing from lane " + sheet + ": NULL first", Bench::busy, x -> x.copy(other, 0, 3, 0, 1), NULL);
        }
        QuarrelSales dropped = busy();
        dropped.drop(2);
        due("copy of what was ints to bytes", dropped.copy(2, 0, 0, 0, 1), NULL);
        due("copy of bytes to what was ints", dropped.copy(0, 0, 2, 0, 1), NULL);
        due("deal of what was ints as bytes", dropped.deal(2, 0, 0, 1), NULL);
        due("item of what was ints as bytes", dropped.item(2, 0, 0, 1), NULL);
        refused("copy of nothing to itself, none", Bench::busy, x -> x.copy(3, 0, 3, 0, 0), NULL);
        refused("copy of nothing to sheet 4: BAD first", Bench::busy, x -> x.copy(3, 0, 4, 0, 1), BAD);
        refused("copy of sheet 4 to nothing: BAD first", Bench::busy, x -> x.copy(4, 0, 3, 0, 1), BAD);
        refused("copy to nothing, n -1: NULL first", Bench::busy, x -> x.copy(0, 0, 3, 0, -1), NULL);
        refused("copy of bytes to shorts", Bench::busy, x -> x.copy(0, 0, 1, 0, 1), CAST);
        refused("copy of ints to bytes, none", Bench::busy, x -> x.copy(2, 0, 0, 0, 0), CAST);
        refused("copy of ints to shorts, n -1: CAST first", Bench::busy, x -> x.copy(2, 9, 1, 9, -1), CAST);
        refused("copy of n that turns with i", Bench::busy, x -> x.copy(0, 1, 0, 0, Integer.MAX_VALUE), INDEX);
        refused("copy of n that turns with j", Bench::busy, x -> x.copy(0, 0, 0, 4, Integer.MAX_VALUE), INDEX);
        refused("copy of i that turns with n", Bench::busy, x -> x.copy(0, Integer.MAX_VALUE, 0, 0, 4), INDEX);
        refused("copy of j that turns with n", Bench::busy, x -> x.copy(0, 0, 0, Integer.MAX_VALUE, 4), INDEX);
        refused("copy of i and n below 0", Bench::busy, x -> x.copy(0, Integer.MIN_VALUE, 0, 0, Integer.MIN_VALUE), INDEX);
    }

    public static void main(String[] args) {
        peopleAndLaws();
        things();
        suitsBetweenSides();
        typing();
        sales();
        weddingsAndParts();
        gains();
        groupsAndRows();
        whatItIsWorth();
        askedOnly();
        images();
        dealing();
        rowsOfSheets();
        copies();
        end();
    }
}
