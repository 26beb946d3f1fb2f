import java.lang.reflect.Method;
import java.util.Map;
import java.util.TreeMap;

/**
 * Every method with every choice of numbers at the document's edges and far from them, in an empty, a
 * lived-in and a full house, answered by MissedSale and by PlainSale alike.
 */
public final class ExtremesTest {
    private static final int MIN = Integer.MIN_VALUE, MAX = Integer.MAX_VALUE;
    private static final int[] MANY = {MIN, MIN + 1, -100, -11, -2, -1, 0, 1, 2, 3, 4, 5, 6, 7, 8, 9,
        10, 11, 12, 13, 15, 16, 24, 39, 40, 41, 49, 50, 55, 56, 59, 60, 61, 66, 67, 68, 70, 99, 100,
        120, 255, 256, MAX - 1, MAX};
    private static final int[] SOME = {MIN, -2, -1, 0, 1, 3, 4, 5, 6, 7, 8, 10, 30, 60, 61, 99, 100,
        112, 113, 3012, 3100, MAX};
    private static final int[] FEW = {MIN, -1, 0, 1, 2, 3, 5, 6, 60, MAX};
    private static final long[] LONGS = {Long.MIN_VALUE, MIN - 1L, -129, -2, 0, 1, 128, 4294967296L,
        Long.MAX_VALUE};
    // an object is used for at most 512 calls, those that make the house among them
    private static final int CALLS = 300;

    private final Check check = new Check();
    private final Map<String, Method> sales = new TreeMap<>();
    private final Map<String, Method> plains = new TreeMap<>();
    private MissedSale sale;
    private PlainSale plain;
    private int made;
    private int house;

    public static void main(String[] args) throws Exception {
        ExtremesTest test = new ExtremesTest();
        test.findMethods();
        for (int house = 0; house < 4; house++) {
            test.house = house;
            for (String name : test.sales.keySet()) {
                test.makeHouse();
                test.tryAll(name, new Object[test.sales.get(name).getParameterCount()], 0);
            }
        }
        test.check.end("ExtremesTest");
    }

    private void findMethods() throws Exception {
        for (Method method : MissedSale.class.getDeclaredMethods()) {
            if (java.lang.reflect.Modifier.isPublic(method.getModifiers())) {
                Method same = PlainSale.class.getDeclaredMethod(method.getName(),
                        method.getParameterTypes());
                same.setAccessible(true);
                sales.put(method.getName(), method);
                plains.put(method.getName(), same);
            }
        }
        check.due("methods", 41, sales.size());
    }

    private void tryAll(String name, Object[] numbers, int at) throws Exception {
        if (check.wrong() > 20) {
            return;
        }
        if (at == numbers.length) {
            if (made++ >= CALLS) {
                makeHouse();
            }
            both(name, numbers);
            return;
        }
        if (sales.get(name).getParameterTypes()[at] == long.class) {
            for (long v : LONGS) {
                numbers[at] = v;
                tryAll(name, numbers, at + 1);
            }
            return;
        }
        for (int v : numbers.length < 3 ? MANY : numbers.length < 4 ? SOME : FEW) {
            numbers[at] = v;
            tryAll(name, numbers, at + 1);
        }
        if (name.equals("drawn") && at == 2) {
            for (int v : new int[] {99, 100, 112, 113, 3000, 3012, 3013, 3100}) {
                numbers[at] = v;
                tryAll(name, numbers, at + 1);
            }
        }
    }

    private void both(String name, Object... numbers) throws Exception {
        Object want = plains.get(name).invoke(plain, numbers);
        Object got = sales.get(name).invoke(sale, numbers);
        check.due("house " + house + ": " + name + java.util.Arrays.toString(numbers),
                ((Number) want).longValue(), ((Number) got).longValue());
    }

    /** 0 is empty; 1 is lived in; 2 is full; 3 is full of THINGS that BIDDERS have. */
    private void makeHouse() throws Exception {
        sale = new MissedSale();
        plain = new PlainSale();
        made = 0;
        if (house == 0) {
            return;
        }
        int things = house == 1 ? 4 : 8;
        int bidders = house == 1 ? 3 : 7;
        for (int i = 0; i < things; i++) {
            both("thing", i % 4);
        }
        for (int i = 0; i < bidders; i++) {
            both("bidder", (3 * i + 5) % 10, 14 * i);
            both("mend", i, 7, i % 3);
        }
        for (int i = 0; i < things && house != 2; i++) {
            both("mend", i, 1, i % 3 - (house == 1 ? 1 : 0));
        }
        for (int i = 0; i < things; i += 3) {
            both("mend", i, 3, 30 + 10 * i);
        }
        both("row", 0, 0, 60);
        both("put", 0, 1, 1L);
        both("put", 0, 2, 2L);
        both("row", 1, 0, 3);
        both("put", 1, 0, 10L);
        both("row", 3, 3, 5);
        both("body", 7);
        both("keep", 4, 0);
        both("act", 0, 3, 4);
        both("image");
        both("year");
        both("undo");
    }
}
