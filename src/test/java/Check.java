/** Counts the answers that are not as due and prints them. */
final class Check {
    private int asked;
    private int wrong;

    void due(String call, long want, long got) {
        asked++;
        if (got != want) {
            wrong++;
            System.out.println(call + " answered " + got + ", due is " + want);
        }
    }

    void holds(String what, boolean so) {
        asked++;
        if (!so) {
            wrong++;
            System.out.println("does not hold: " + what);
        }
    }

    int wrong() {
        return wrong;
    }

    void end(String name) {
        System.out.println(name + ": " + asked + " answers, " + wrong + " not as due");
        if (wrong != 0) {
            System.exit(1);
        }
    }

    /** A ROW of bytes on a SHELF. */
    static void bytes(MissedSale sale, int shelf, int... values) {
        sale.row(shelf, 0, values.length);
        for (int i = 0; i < values.length; i++) {
            sale.put(shelf, i, values[i]);
        }
    }

    /** A text comes to THE TAPE and becomes THE LAW. */
    static int law(MissedSale sale, String text) {
        for (int i = 0; i < text.length(); i++) {
            sale.feed(text.charAt(i));
        }
        return sale.law();
    }
}
