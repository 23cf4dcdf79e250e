import java.lang.management.ManagementFactory;
import java.lang.reflect.Constructor;
import java.lang.reflect.Field;
import java.lang.reflect.Method;
import java.lang.reflect.Modifier;
import java.util.Arrays;
import java.util.TreeSet;

/** The face is the document's and nothing else; odd arguments never make a call throw; what all calls make has room. */
public final class FaceTest {
    private static final String[] FACE = {
        "person(int, int, int)", "rule(int, int)", "thing(int)", "worth(int, int, int)", "suit(int, int)",
        "told(int, int)", "hand(int)", "purse(int)", "value(int)", "type(long, int)", "village()", "suits()",
        "count(int)", "sale(int, int, int)", "swap(int, int)", "give(int)", "wed(int, int)", "part(int, int)",
        "gain(int, int, int)", "agreed(int, int)", "rest(int)", "group(int)", "never()", "fewest(int)",
        "best(int, int)", "saves(int, int)", "match()", "against(int, int, int)", "pays(int, int, int, int, int)",
        "image()", "restore()", "deal(int, int, int, int)", "sheet(int, int, int)", "drop(int)",
        "item(int, int, int, int)", "copy(int, int, int, int, int)"};
    private static final String[] CONSTANTS = {"BAD", "NOT", "FULL", "NONE", "NULL", "CAST", "INDEX", "SIZE"};
    private static final int[] ODD = {0, 1, 2, 5, 6, 7, 8, 9, 10, 15, 16, 24, 25, 31, 32, 63, 64, -1, -2, 80, 99, 100,
        999, 1000, 4095, 4096, 1 << 30, Integer.MAX_VALUE, Integer.MAX_VALUE - 1, Integer.MIN_VALUE, Integer.MIN_VALUE + 1};
    private static final long[] WORDS = {0x30313233343536L, 0x3B30313233343536L, 0x2D313233343536L, 0x6162L,
        0x2C30612C31622C32L, 0x2C6130L, 0x3031L, 0, -1, Long.MIN_VALUE, 0x2020202020202020L};

    /** 7.3 million fields and elements, of eight bytes at most. */
    private static final long ROOM = 8 * 7_300_000L;

    private static int wrong = 0;

    private static void hold(boolean holds, String what) {
        if (!holds) {
            wrong++;
            System.out.println("does not hold: " + what);
        }
    }

    private static String name(Method m) {
        String types = Arrays.toString(m.getParameterTypes());
        return m.getName() + "(" + types.substring(1, types.length() - 1) + ")";
    }

    private static void face() {
        TreeSet<String> found = new TreeSet<>();
        for (Method m : QuarrelSales.class.getDeclaredMethods()) {
            if (!m.isSynthetic() && !Modifier.isPrivate(m.getModifiers())) {
                found.add(name(m));
                hold(Modifier.isPublic(m.getModifiers()) && m.getReturnType() == int.class, name(m) + " is public int");
            }
        }
        hold(found.equals(new TreeSet<>(Arrays.asList(FACE))), "the methods are " + found);
        TreeSet<String> constants = new TreeSet<>();
        for (Field f : QuarrelSales.class.getDeclaredFields()) {
            if (!Modifier.isPrivate(f.getModifiers())) {
                constants.add(f.getName());
                hold(Modifier.isPublic(f.getModifiers()) && Modifier.isStatic(f.getModifiers())
                    && Modifier.isFinal(f.getModifiers()), f.getName() + " is a public constant");
            }
        }
        hold(constants.equals(new TreeSet<>(Arrays.asList(CONSTANTS))), "the constants are " + constants);
        Constructor<?>[] made = QuarrelSales.class.getDeclaredConstructors();
        hold(made.length == 1 && Modifier.isPublic(made[0].getModifiers()) && made[0].getParameterCount() == 0, "one constructor");
        hold(Modifier.isPublic(QuarrelSales.class.getModifiers()) && Modifier.isFinal(QuarrelSales.class.getModifiers()), "public and final");
    }

    private static final class Counter {
        long seed;

        int below(int n) {
            seed = seed * 6364136223846793005L + 1442695040888963407L;
            return (int) ((seed >>> 33) % n);
        }

        int odd() {
            return below(3) == 0 ? ODD[below(ODD.length)] : below(8);
        }

        int side() {
            return below(2) == 0 ? odd() : 10 + odd();
        }
    }

    /** One call with odd arguments; no answer matters here but that there is one. */
    private static int call(QuarrelSales x, Counter c) {
        switch (c.below(FACE.length)) {
            case 0: return x.person(c.odd(), c.odd(), c.odd());
            case 1: return x.rule(c.odd(), c.odd());
            case 2: return x.thing(c.odd());
            case 3: return x.worth(c.odd(), c.odd(), c.odd());
            case 4: return x.suit(c.side(), c.side());
            case 5: return x.told(c.odd(), c.odd());
            case 6: return x.hand(c.odd());
            case 7: return x.purse(c.odd());
            case 8: return x.value(c.odd());
            case 9: return x.type(WORDS[c.below(WORDS.length)], c.odd());
            case 10: return x.village();
            case 11: return x.suits();
            case 12: return x.count(c.odd());
            case 13: return x.sale(c.odd(), c.odd(), c.odd());
            case 14: return x.swap(c.odd(), c.odd());
            case 15: return x.give(c.odd());
            case 16: return x.wed(c.odd(), c.odd());
            case 17: return x.part(c.odd(), c.odd());
            case 18: return x.gain(c.odd(), c.odd(), c.odd());
            case 19: return x.agreed(c.odd(), c.odd());
            case 20: return x.rest(c.odd());
            case 21: return x.group(c.odd());
            case 22: return x.never();
            case 23: return x.fewest(c.odd());
            case 24: return x.best(c.odd(), c.odd());
            case 25: return x.saves(c.odd(), c.odd());
            case 26: return x.match();
            case 27: return x.against(c.odd(), c.odd(), c.odd());
            case 28: return x.pays(c.odd(), c.odd(), c.odd(), c.odd(), c.odd());
            case 29: return x.image();
            case 30: return x.restore();
            case 31: return x.deal(c.odd(), c.odd(), c.odd(), c.odd());
            case 32: return x.sheet(c.odd(), c.odd(), c.odd());
            case 33: return x.drop(c.odd());
            case 34: return x.item(c.odd(), c.odd(), c.odd(), c.odd());
            default: return x.copy(c.odd(), c.odd(), c.odd(), c.odd(), c.odd());
        }
    }

    private static void oddCalls(int runs) {
        Counter c = new Counter();
        for (int run = 0; run < runs; run++) {
            QuarrelSales x = new QuarrelSales();
            for (int k = 0; k < 512; k++) {
                call(x, c);
            }
        }
    }

    private static void room() {
        com.sun.management.ThreadMXBean threads = (com.sun.management.ThreadMXBean) ManagementFactory.getThreadMXBean();
        long me = Thread.currentThread().getId();
        Counter c = new Counter();
        QuarrelSales[] row = new QuarrelSales[40];
        long before = threads.getThreadAllocatedBytes(me);
        for (int k = 0; k < row.length; k++) {
            row[k] = new QuarrelSales();
        }
        for (int k = 0; k < 512 * row.length; k++) {
            call(row[k % row.length], c);
        }
        long made = threads.getThreadAllocatedBytes(me) - before;
        hold(made < ROOM, "objects of a run live in one room, but took " + made + " bytes");
    }

    public static void main(String[] args) {
        face();
        oddCalls(200);
        room();
        System.out.println(wrong == 0 ? "the face holds" : wrong + " do not hold");
        if (wrong != 0) {
            System.exit(1);
        }
    }
}
