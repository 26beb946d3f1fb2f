import java.io.IOException;

/** The edges of promise 8: what a TEXT may be, where its FAULT is, and what THE LAW gives. */
public final class EdgeLawTest extends Edges {
    private static final String LOWEST = "8192*8192*32";

    private EdgeLawTest(String[] args) throws IOException {
        super(args);
    }

    public static void main(String[] args) throws IOException {
        EdgeLawTest test = new EdgeLawTest(args);
        test.texts();
        test.fullTape();
        test.linesThatCount();
        test.ranks();
        test.comparedOnce();
        test.digits();
        test.names();
        test.blanks();
        test.openAtOnce();
        test.wraps();
        test.divides();
        test.oneOrZero();
        test.heldWithin();
        test.faults();
        test.faultsOfLength();
        test.goesOnUpToTheFault();
        test.lawsThatStay();
        test.withoutText();
        test.hasAndMisses();
        test.check.end("EdgeLawTest");
    }

    /** For how many years one of CONSTANT 5, LIFE 90, HEIRS 3, LOVE 7 with one THING misses. */
    private void gives(String text, int want) {
        x = new MissedSale();
        x.thing(0);
        x.thing(1);
        x.bidder(5, 90);
        x.mend(0, 6, 3);
        x.mend(0, 9, 7);
        x.mend(1, 1, 0);
        due("law() of " + text, 1, Check.law(x, text));
        due("by " + text, want, x.years(0, 0));
    }

    /** Whether what is told of ints beyond 0 .. 99 holds. */
    private void holds(String text) {
        gives(text, 1);
    }

    private void fault(String text, int place) {
        x = new MissedSale();
        due("law() of " + text, -100 - place, Check.law(x, text));
        due("THE TAPE is empty behind " + text, 0, x.count(2));
    }

    private void texts() {
        says("LINES, one or more, parted by ;");
        fault("", 0);
        fault(";", 0);
        fault("c;", 2);
        fault(";c", 0);
        fault("c;;c", 2);
        gives("c", 5);
        gives("c;l", 5);
        gives("0?1;0?2;l", 90);
        says("LINE: E, or E ? E (what counts if the first is not 0).");
        fault("?c", 0);
        fault("c?", 2);
        fault("c??c", 2);
        fault("c?c?c", 3);
        fault("c?c;", 4);
        gives("1?c", 5);
        gives("c?l;1", 90);
        gives("0?l;4", 4);
    }

    private void fullTape() {
        says("THE LAW is a TEXT by THE TAPE (at most 120 bytes)");
        gives("1+".repeat(59) + "12", 71);
        gives("1;".repeat(59) + "12", 1);
        gives("0?1;".repeat(29) + "0?42", 0);
        gives("0?1;".repeat(29) + "0042", 42);
        gives("0&".repeat(58) + "0|42", 1);
        gives("((((((" + "1*".repeat(53) + "17" + "))))))", 17);
        x = new MissedSale();
        x.thing(0);
        x.bidder(0, 0);
        String text = "1+".repeat(60);
        for (int i = 0; i < 120; i++) {
            x.feed(text.charAt(i));
        }
        due("one byte more", FULL, x.feed('1'));
        due("it did not come", -220, x.law());
    }

    private void linesThatCount() {
        says("The first LINE without a first E, or whose first E is not 0, counts; none: 0.");
        gives("7;8", 7);
        gives("0;8", 0);
        gives("0?7;8", 8);
        gives("1?7;8", 7);
        gives("-1?7;8", 7);
        gives("9999?7;8", 7);
        gives(LOWEST + "?7;8", 7);
        gives("1-1?7;8", 8);
        gives("1?0;8", 0);
        gives("1?-4;8", 0);
        gives("0?7", 0);
        gives("0?7;0?8", 0);
        gives("0?7;m?8;n-1?9", 0);
        gives("0?7;n?8;1?9", 8);
    }

    private void ranks() {
        says("E = A { | A }. A = B { & B }. B = S, or S < S, S = S, S > S. S = P { + P, - P }. P = O"
                + " { * O, / O, % O }.");
        gives("1|1&0", 1);
        gives("0&0|1", 1);
        gives("0&(0|1)", 0);
        gives("2=2&3=3", 1);
        gives("1+2=3", 1);
        gives("1=0|1", 1);
        gives("0>1|1", 1);
        gives("2+3*4", 14);
        gives("2*3+4", 10);
        gives("20-6/2", 17);
        gives("20-7%4", 17);
        gives("20-5-3", 12);
        gives("20-5+3", 18);
        gives("80/5/4", 4);
        gives("80/5*4", 64);
        gives("80*5/4", 99);
        gives("17%10%4", 3);
        gives("17%10*4", 28);
        gives("9*7%10", 3);
        gives("(20-5)-(3-1)", 13);
        gives("20-(5-3)", 18);
        gives("1-2<0", 1);
        gives("0<1-2", 0);
        gives("c-v<0&l>h|0", 1);
    }

    private void comparedOnce() {
        says("B = S, or S < S, S = S, S > S.");
        String[] signs = {"<", "=", ">"};
        int[] of35 = {1, 0, 0};
        int[] of55 = {0, 1, 0};
        int[] of53 = {0, 0, 1};
        for (int i = 0; i < 3; i++) {
            gives("3" + signs[i] + "5", of35[i]);
            gives("5" + signs[i] + "5", of55[i]);
            gives("5" + signs[i] + "3", of53[i]);
            for (String second : signs) {
                fault("c" + signs[i] + "c" + second + "c", 3);
                fault("(c" + signs[i] + "c" + second, 4);
                gives("(5" + signs[i] + "3)" + second + "7", second.equals("<") ? 1 : 0);
                gives("1&5=5" + "&3" + second + "3", second.equals("=") ? 1 : 0);
            }
        }
    }

    private void digits() {
        says("O = a number (1 to 4 digits), a NAME, ! O, - O, ( E ).");
        gives("0", 0);
        gives("9", 9);
        gives("10", 10);
        gives("010", 10);
        gives("0099", 99);
        holds("9999=9998+1");
        holds("1234=12*100+34");
        fault("12345", 4);
        fault("00000", 4);
        fault("c+12345", 6);
        fault("(1234)5", 6);
        fault("1c", 1);
        fault("c1", 1);
        fault("1(c)", 1);
        fault("(c)(c)", 3);
        fault("()", 1);
        fault("!", 1);
        fault("-", 1);
        fault("(", 1);
        fault("c!c", 1);
        fault("+c", 0);
        fault("c+*c", 2);
        fault("c+", 2);
        fault("c-;", 2);
        gives("c--c", 10);
        gives("c+-c", 0);
        gives("c*-1*-4", 20);
        gives("-c+9", 4);
        gives("-(c-9)", 4);
        gives("!c+9", 9);
        gives("!(c-5)+9", 10);
        gives("--c", 5);
        gives("!!c", 1);
        gives("-!0+9", 8);
        gives("!-c", 0);
    }

    private void names() {
        says("NAMES: c CONSTANT, l LIFE, h HEIRS, v LOVE of that KIND");
        gives("c", 5);
        gives("l", 90);
        gives("h", 3);
        gives("v", 7);
        gives("n", 1);
        gives("m", 0);
        for (int letter = 0; letter < 256; letter++) {
            x = new MissedSale();
            x.feed(letter);
            boolean begins = "clhvnm0123456789".indexOf(letter) >= 0;
            boolean goesOn = letter == '(' || letter == '!' || letter == '-';
            due("law() of the byte " + letter, begins ? 1 : goesOn ? -101 : -100, x.law());
            x.feed('c');
            x.feed(letter);
            boolean behind = letter > 0 && "|&<=>+-*/%?;".indexOf(letter) >= 0;
            due("law() of c and the byte " + letter, behind ? -102 : -101, x.law());
        }
    }

    private void blanks() {
        says("No blanks.");
        fault(" c", 0);
        fault("c ", 1);
        fault("c +c", 1);
        fault("c+ c", 2);
        fault("c\n", 1);
    }

    private void openAtOnce() {
        says("At most 6 of ( ! - ahead of an O are open at once.");
        for (String sign : new String[] {"!", "-"}) {
            gives(sign.repeat(6) + "c", sign.equals("!") ? 1 : 5);
            fault(sign.repeat(7) + "c", 6);
            fault("(" + sign.repeat(6), 6);
            fault(sign.repeat(6) + "(", 6);
        }
        gives("((((((c))))))", 5);
        fault("(((((((c)))))))", 6);
        gives("(!(-(!c)))", 1);
        gives("-(!(-!c))+9", 8);
        gives("!(-(!(c)))", 1);
        gives("((((((c))))))+((((((c))))))", 10);
        gives("------c+------c*------c", 30);
        fault("------c+-------c", 14);
        fault("((((((c))))))+(((((((c", 20);
        gives("(((((-c)))))+99", 94);
        gives("(((((c+-c+(v)+!c)))))", 7);
        fault("(((((c+-(", 8);
        fault("(((((c+((", 8);
        fault("((((((-", 6);
        gives("1?((((((c))))));2", 5);
        fault("1?(((((((c", 8);
        gives("((((((0))))))?1;((((((c))))))", 5);
        fault("c;(((((((c", 8);
        gives("((((((c<9))))))", 1);
    }

    private void wraps() {
        says("Ints that wrap");
        holds(LOWEST + "<0");
        holds(LOWEST + "-1>0");
        holds(LOWEST + "-1+1<0");
        holds("-(" + LOWEST + ")=" + LOWEST);
        holds(LOWEST + "+" + LOWEST + "=0");
        holds(LOWEST + "*2=0");
        holds(LOWEST + "*3<0");
        holds(LOWEST + "-1>9999*9999");
        holds("9999*9999*22<0");
        // 9999 * 9999 * 43 is 4299140043, less 2 to the 32nd 4172747
        holds("9999*9999*43=417*9999+3164");
        gives(LOWEST, 0);
        gives(LOWEST + "-1", 99);
    }

    private void divides() {
        says("/ and % toward 0, by 0 they give 0");
        holds("7/2=3");
        holds("-7/2=-3");
        holds("7/-2=-3");
        holds("-7/-2=3");
        holds("7%2=1");
        holds("-7%2=-1");
        holds("7%-2=1");
        holds("-7%-2=-1");
        holds("1/2=0");
        holds("-1/2=0");
        holds("7/0=0");
        holds("-7/0=0");
        holds("0/0=0");
        holds("7%0=0");
        holds("-7%0=0");
        holds("0%0=0");
        holds("0/7=0");
        holds("0%7=0");
        gives("9+c/m", 9);
        gives("9+c%m", 9);
        gives("9+c/(c-5)*l", 9);
        says("Ints that wrap");
        holds(LOWEST + "/-1=" + LOWEST);
        holds(LOWEST + "%-1=0");
        holds(LOWEST + "/1=" + LOWEST);
        holds(LOWEST + "/2=-(8192*8192*16)");
    }

    private void oneOrZero() {
        says("| & < = > ! give 1, 0; all is worked out.");
        gives("0|0", 0);
        gives("0|7", 1);
        gives("7|0", 1);
        gives("7|7", 1);
        gives("-1|0", 1);
        gives("0&0", 0);
        gives("0&7", 0);
        gives("7&0", 0);
        gives("7&7", 1);
        gives("4&3", 1);
        gives("-1&-2", 1);
        gives("!0", 1);
        gives("!1", 0);
        gives("!7", 0);
        gives("!-1", 0);
        gives("(0|0)+9", 9);
        gives("(0&0)+9", 9);
        gives("(0&7)+9", 9);
        gives("(7&0)+9", 9);
        gives("(5<3)+9", 9);
        gives("(5=3)+9", 9);
        gives("(3>5)+9", 9);
        gives("!7+9", 9);
        gives("0&c/0", 0);
        gives("1|c/0", 1);
        gives("0&c%0|3", 1);
        gives("(7|7)+(7&7)+(3<5)+(5=5)+(5>3)+!0", 6);
        gives(LOWEST + "|0", 1);
        gives("0?c/0;1?4;c%0", 4);
    }

    private void heldWithin() {
        says("It gives for how many years one would miss a THING (held within 0 .. 99).");
        gives("0", 0);
        gives("1", 1);
        gives("98", 98);
        gives("99", 99);
        gives("100", 99);
        gives("9999", 99);
        gives("-1", 0);
        gives("-9999", 0);
        gives("1-1", 0);
    }

    private void faults() {
        says("FAULT: the place (from 0) of the first byte with which no TEXT goes on");
        fault(")", 0);
        fault("c)", 1);
        fault("(c))", 3);
        fault("(c?c)", 2);
        fault("(c;c)", 2);
        fault("!(c?c)", 3);
        fault("C", 0);
        fault("cc", 1);
        fault("c<>c", 2);
        fault("c<=c", 2);
        fault("c==c", 2);
        fault("c||c", 2);
        fault("c&&c", 2);
        fault("c//c", 2);
        fault("l*?c", 2);
        fault("c?l;h?v;n?m?1", 11);
        fault("c.", 1);
        says("-100 less its FAULT");
        fault("c+l+h+x", 6);
        x = new MissedSale();
        x.feed('c');
        x.feed(255);
        due("law() of c and 255", -101, x.law());
        x.feed(0);
        due("law() of 0", -100, x.law());
    }

    private void faultsOfLength() {
        says("the length, if it ends too early.");
        String[] early = {"", "(", "((((((", "------", "c+", "(c", "(c+c", "c?", "c;", "c?c;", "1234+",
            "!", "c<", "c&(l|h)*", "((((((c)))))"};
        for (String text : early) {
            fault(text, text.length());
        }
        fault("1+".repeat(60), 120);
        fault("c;".repeat(60), 120);
        fault("1+".repeat(59) + "1)", 119);
        fault("1+".repeat(59) + "1(", 119);
        fault("1+".repeat(59) + "+1", 118);
    }

    /** Each text of a few signs, behind some that leave much open, is ended in all plain ways. */
    private void goesOnUpToTheFault() {
        says("the first byte with which no TEXT goes on; the length, if it ends too early.");
        for (String ahead : new String[] {"", "(!-(-", "c<l", "c?1234", "((((((c"}) {
            everyText(ahead, 4);
        }
    }

    private void everyText(String text, int more) {
        int answer = Check.law(new MissedSale(), text);
        if (answer != 1) {
            int fault = -100 - answer;
            due("ahead of the fault of " + text, 1, goesOn(text.substring(0, fault)) ? 1 : 0);
            if (fault < text.length()) {
                due("with the fault of " + text, 0, goesOn(text.substring(0, fault + 1)) ? 1 : 0);
            }
        }
        for (int i = 0; i < "c1()-!<|?;".length() && more > 0; i++) {
            everyText(text + "c1()-!<|?;".charAt(i), more - 1);
        }
    }

    /** Whether a number, if one is due, and as many ) as are open make a TEXT of it. */
    private static boolean goesOn(String text) {
        MissedSale sale = new MissedSale();
        for (int closed = 0; closed <= 6; closed++) {
            String end = ")".repeat(closed);
            if (Check.law(sale, text + end) == 1 || Check.law(sale, text + "0" + end) == 1) {
                return true;
            }
        }
        return false;
    }

    private void lawsThatStay() {
        says("THE TAPE becomes THE LAW: 1; -100 less its FAULT; THE TAPE is empty then.");
        x = new MissedSale();
        x.thing(0);
        x.bidder(5, 90);
        due("no text yet", 25, x.years(0, 0));
        due("a fault", -101, Check.law(x, "7)"));
        due("no text still", 25, x.years(0, 0));
        due("an empty tape", -100, x.law());
        due("no text still", 25, x.years(0, 0));
        due("a law", 1, Check.law(x, "c+1"));
        due("by it", 6, x.years(0, 0));
        due("a fault", -102, Check.law(x, "8+"));
        due("by the law of before", 6, x.years(0, 0));
        due("an empty tape", -100, x.law());
        due("by the law of before", 6, x.years(0, 0));
        due("a shorter law", 1, Check.law(x, "4"));
        due("by it", 4, x.years(0, 0));
        due("a longer one", 1, Check.law(x, "m?9;c*2"));
        due("by it", 10, x.years(0, 0));
        x.mend(0, 4, 6);
        due("as he is now", 12, x.years(0, 0));
    }

    private void withoutText() {
        says("Without a text: c times v, but l and h together at most, less 5 times n.");
        // CONSTANT, LOVE, LIFE, HEIRS, and for how many years with 0, 1, .. THINGS
        int[][] ones = {
            {0, 9, 99, 9, 0, 0},
            {9, 0, 99, 9, 0, 0},
            {9, 9, 99, 9, 81, 76, 71, 66, 61, 56, 51, 46, 41},
            {9, 9, 72, 9, 81, 76, 71},
            {9, 9, 72, 8, 80, 75, 70},
            {9, 9, 71, 9, 80, 75, 70},
            {9, 9, 81, 0, 81, 76, 71},
            {9, 9, 80, 0, 80, 75, 70},
            {9, 9, 0, 9, 9, 4, 0, 0},
            {9, 9, 0, 0, 0, 0},
            {5, 2, 99, 0, 10, 5, 0, 0},
            {3, 2, 99, 0, 6, 1, 0, 0},
            {2, 2, 99, 0, 4, 0, 0},
            {1, 1, 1, 0, 1, 0},
        };
        for (int[] one : ones) {
            x = new MissedSale();
            for (int i = 0; i < 8; i++) {
                x.thing(2);
            }
            x.bidder(one[0], one[2]);
            x.mend(0, 11, one[1]);
            x.mend(0, 6, one[3]);
            for (int n = 0; n < one.length - 4; n++) {
                due("c " + one[0] + ", v " + one[1] + ", l " + one[2] + ", h " + one[3] + ", n " + n,
                        one[4 + n], x.years(0, 0));
                x.mend(7 - n, 1, 0);
            }
        }
    }

    private void hasAndMisses() {
        says("n how many THINGS he has (not LOST), m how many he misses still (LOST, MISSED above 0)");
        x = new MissedSale();
        for (int i = 0; i < 8; i++) {
            x.thing(0);
        }
        x.bidder(0, 0);
        x.bidder(0, 0);
        Check.law(x, "n*10+m");
        due("neither", 0, x.years(0, 0));
        for (int i = 0; i < 8; i++) {
            x.mend(i, 1, 0);
            due("he has " + (i + 1), 10 * (i + 1), x.years(0, 0));
        }
        x.mend(0, 3, 1);
        due("MISSED 1, not LOST", 80, x.years(0, 0));
        x.mend(0, 2, 1);
        due("MISSED 1 and LOST", 71, x.years(0, 0));
        x.mend(0, 3, 0);
        due("MISSED 0 and LOST", 70, x.years(0, 0));
        x.mend(0, 3, 99);
        due("MISSED 99 and LOST", 71, x.years(0, 0));
        due("of the other", 0, x.years(10, 0));
        x.mend(0, 1, 1);
        due("it is the other's", 70, x.years(0, 0));
        due("of the other", 1, x.years(10, 0));
        x.mend(0, 1, -1);
        due("it is the house's", 70, x.years(0, 0));
        due("of the other", 0, x.years(10, 0));
        for (int i = 0; i < 8; i++) {
            x.mend(i, 1, 0);
            x.mend(i, 2, 1);
            x.mend(i, 3, 1);
        }
        due("all eight are MISSED", 8, x.years(0, 0));
    }
}
