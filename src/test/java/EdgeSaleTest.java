import java.io.IOException;

/** The edges of promises 10 to 15: sales in thought. */
public final class EdgeSaleTest extends Edges {
    private EdgeSaleTest(String[] args) throws IOException {
        super(args);
    }

    public static void main(String[] args) throws IOException {
        EdgeSaleTest test = new EdgeSaleTest(args);
        test.winners();
        test.likeBids();
        test.thingsThatAreNot();
        test.shelvesWithoutCatalogue();
        test.placesOfSale();
        test.sixteen();
        test.ends();
        test.passedOver();
        test.after();
        test.fiveInOrder();
        test.orders();
        test.ordersThatAreAlike();
        test.feigned();
        test.feignedUpTo99();
        test.examinedFew();
        test.examinedAll();
        test.pairsOfAll();
        test.check.end("EdgeSaleTest");
    }

    private void winners() {
        says("a bid of 0 wins nothing: it stays");
        house(1);
        due("nobody is there", NOT, x.wins(0));
        house(1, 0);
        due("one bids 0", NOT, x.wins(0));
        house(1, 0, 0, 0, 0, 0, 0, 0);
        due("seven bid 0", NOT, x.wins(0));
        for (int one = 0; one < 7; one++) {
            x.mend(one, 5, 1);
            due("one of seven bids 1", one, x.wins(0));
            x.mend(one, 7, 1);
            x.mend(one, 8, 1);
            due("he is found out", NOT, x.wins(0));
            x.mend(one, 8, 0);
            x.mend(one, 5, 0);
            due("he feigns 1", one, x.wins(0));
            x.mend(one, 7, 0);
        }
    }

    private void likeBids() {
        says("two or more of the same most: it goes to pieces");
        for (int a = 0; a < 7; a++) {
            for (int b = a + 1; b < 7; b++) {
                house(1, 49, 49, 49, 49, 49, 49, 49);
                x.mend(a, 5, 50);
                due("one bids most", a, x.wins(0));
                x.mend(b, 5, 50);
                due(a + " and " + b + " bid the same most", 8, x.wins(0));
                int third = a > 0 ? 0 : b == 1 ? 2 : 1;
                x.mend(third, 5, 50);
                due("three bid the same most", 8, x.wins(0));
                x.mend(third, 5, 51);
                due("a third bids more", third, x.wins(0));
            }
        }
        house(1, 99, 99, 99, 99, 99, 99, 99);
        due("all bid the most there is", 8, x.wins(0));
        house(1, 90, 99);
        x.mend(0, 7, 9);
        x.mend(1, 7, 9);
        due("90 and 9, 99 and 9", 8, x.wins(0));
        x.mend(0, 7, 8);
        due("90 and 8, 99 and 9", 1, x.wins(0));
    }

    private void thingsThatAreNot() {
        says("who would win a THING, if it were put up (the house's or not; NOT: nobody; 8: pieces).");
        house(8, 5, 6);
        due("the first THING", 1, x.wins(0));
        due("the last THING", 1, x.wins(7));
        outside("wins(_)", 0, 7, BAD, v -> x.wins(v));
        for (int owner = 0; owner < 2; owner++) {
            x.mend(7, 1, owner);
            due("it is BIDDER " + owner + "'s", 1, x.wins(7));
        }
        x.mend(7, 2, 1);
        due("it is LOST", 1, x.wins(7));
        Check.law(x, "9-n");
        due("who has none bids more", 8, x.wins(0));
        x.mend(6, 1, 0);
        due("the other has one", 1, x.wins(0));
        due("his own counts, too", 1, x.wins(6));
    }

    private void shelvesWithoutCatalogue() {
        says("---- sales in thought (a CATALOGUE on a SHELF: BAD, -11, -12 (no ROW of bytes)).");
        house(1, 5);
        shelvesWithoutBytes();
        due("sale(0, 0)", NOTHING, x.sale(0, 0));
        due("sale(0, 15)", NOTHING, x.sale(0, 15));
        dueOf("sale(_, 0)", KIND, v -> x.sale(v, 0), 1, 2, 3, 4, 5);
        for (int what = 0; what < 3; what++) {
            int of = what;
            due("after(0, 0, " + what + ")", NOTHING, x.after(0, 0, what));
            dueOf("after(_, 0, " + what + ")", KIND, v -> x.after(v, 0, of), 1, 2, 3, 4, 5);
        }
        outside("sale(_, 0)", 0, 5, BAD, v -> x.sale(v, 0));
        outside("after(_, 0, 0)", 0, 5, BAD, v -> x.after(v, 0, 0));
        outside("BAD first, sale(0, _)", 0, 15, BAD, v -> x.sale(0, v));
        outside("BAD first, sale(1, _)", 0, 15, BAD, v -> x.sale(1, v));
        outside("BAD first, after(0, _, 0)", 0, 0, BAD, v -> x.after(0, v, 0));
        outside("BAD first, after(1, _, 1)", 0, 0, BAD, v -> x.after(1, v, 1));
        outside("BAD first, after(0, 0, _)", 0, 2, BAD, v -> x.after(0, 0, v));
        bytes(5, 0);
        due("the last SHELF", 0, x.sale(5, 0));
        x.keep(5, -1);
        due("nothing again", NOTHING, x.sale(5, 0));
        x.row(5, 0, 0);
        due("an empty ROW", NOT, x.sale(5, 0));
    }

    private void placesOfSale() {
        says("Who wins the k-th THING put up (k 0 .. 15). NOT.");
        house(8, 5);
        bytes(0, 7, 6, 5, 4, 3, 2, 1, 0, 0, 1, 2, 3, 4, 5, 6, 7);
        for (int k = 0; k < 16; k++) {
            due("sale(0, " + k + ")", k < 8 ? 0 : 9, x.sale(0, k));
        }
        outside("sale(0, _)", 0, 15, BAD, v -> x.sale(0, v));
        says("NOT: there is no k-th, or it stays");
        bytes(0, 7, 6);
        due("the last", 0, x.sale(0, 1));
        dueOf("sale(0, _)", NOT, v -> x.sale(0, v), 2, 3, 15);
        x.mend(0, 5, 0);
        dueOf("sale(0, _) of what stays", NOT, v -> x.sale(0, v), 0, 1);
    }

    private void sixteen() {
        says("THINGS, put up one behind the other (16 at most");
        house(2, 5);
        x.row(0, 0, 60);
        for (int k = 16; k < 60; k++) {
            x.put(0, k, 1);
        }
        due("sold, the seventeenth is not", 1, x.after(0, 0, 2));
        due("he has", 1, x.after(0, 0, 0));
        due("the sixteenth", 9, x.sale(0, 15));
        x.put(0, 15, 1);
        due("sold, the sixteenth is", 2, x.after(0, 0, 2));
        due("he has", 2, x.after(0, 0, 0));
        due("the sixteenth", 0, x.sale(0, 15));
    }

    private void ends() {
        says("it ends with what is none");
        house(3, 5);
        for (int none : new int[] {3, 4, 7, 8, 9, 16, 127, -1, -2, -128}) {
            bytes(0, 0, none, 1);
            due(none + ": ahead of it", 0, x.sale(0, 0));
            due(none + ": itself", NOT, x.sale(0, 1));
            due(none + ": behind it", NOT, x.sale(0, 2));
            due(none + ": sold", 1, x.after(0, 0, 2));
            bytes(0, none, 0);
            due(none + ": at first", NOT, x.sale(0, 0));
            due(none + ": at first, sold", 0, x.after(0, 0, 2));
        }
        bytes(0, 0, 3, 1);
        x.thing(0);
        due("there is one now", 0, x.sale(0, 1));
        due("and what is behind", 0, x.sale(0, 2));
        x = new MissedSale();
        x.bidder(5, 40);
        bytes(0, 0);
        due("no THINGS at all", NOT, x.sale(0, 0));
    }

    private void passedOver() {
        says("one that is not the house's, or LOST, is passed over");
        house(4, 5);
        x.mend(0, 1, 0);
        x.mend(1, 2, 1);
        x.mend(2, 1, 0);
        x.mend(2, 2, 1);
        bytes(0, 0, 1, 2, 3, 3);
        int[] want = {9, 9, 9, 0, 9};
        for (int k = 0; k < 5; k++) {
            due("sale(0, " + k + ")", want[k], x.sale(0, k));
        }
        due("sold", 1, x.after(0, 0, 2));
        due("pieces", 0, x.after(0, 0, 1));
        due("he has, what is LOST does not count", 2, x.after(0, 0, 0));
        says("8: pieces");
        x.bidder(0, 5);
        due("pieces", 8, x.sale(0, 3));
        due("in pieces it is LOST", 9, x.sale(0, 4));
        due("how many", 1, x.after(0, 0, 1));
        due("none is sold", 0, x.after(0, 0, 2));
        x.mend(0, 5, 0);
        x.mend(1, 5, 0);
        due("it stays", NOT, x.sale(0, 3));
        due("what stays may be put up again", NOT, x.sale(0, 4));
        due("in thought alone", -1, x.of(3, 1));
        due("in thought alone", 0, x.of(3, 2));
        due("nothing is led", 0, x.led(0) + x.led(1));
    }

    private void after() {
        says("By it: how many THINGS one has then (what 0), how many went to pieces (1), were sold"
                + " (2; one 0 for both).");
        house(8, 5, 5, 6);
        x.mend(0, 1, 1);
        bytes(0, 1, 2, 3, 4, 5, 6, 7);
        due("BIDDER 0 has", 0, x.after(0, 0, 0));
        due("BIDDER 1 has", 1, x.after(0, 1, 0));
        due("BIDDER 2 has", 7, x.after(0, 2, 0));
        outside("after(0, _, 0)", 0, 2, BAD, v -> x.after(0, v, 0));
        due("pieces", 0, x.after(0, 0, 1));
        due("sold", 7, x.after(0, 0, 2));
        for (int what = 1; what < 3; what++) {
            int of = what;
            outside("after(0, _, " + what + ")", 0, 0, BAD, v -> x.after(0, v, of));
            dueOf("after(0, _, " + what + ")", BAD, v -> x.after(0, v, of), 2);
        }
        outside("after(0, 0, _)", 0, 2, BAD, v -> x.after(0, 0, v));
        x.mend(2, 5, 5);
        due("all in pieces", 7, x.after(0, 0, 1));
        due("none sold", 0, x.after(0, 0, 2));
        due("BIDDER 2 has", 0, x.after(0, 2, 0));
        x.row(0, 0, 0);
        due("an empty CATALOGUE, BIDDER 1 has", 1, x.after(0, 1, 0));
        due("pieces", 0, x.after(0, 0, 1));
        due("sold", 0, x.after(0, 0, 2));
        house(1);
        bytes(0, 0);
        due("nobody is there: pieces", 0, x.after(0, 0, 1));
        due("nobody is there: sold", 0, x.after(0, 0, 2));
        due("nobody is there: one has", BAD, x.after(0, 0, 0));
    }

    private void fiveInOrder() {
        says("all THINGS of the house that are not LOST (5 at most, else STATE)");
        for (int things = 0; things <= 8; things++) {
            house(things, 5);
            due(things + " THINGS", things > 5 ? STATE : things, x.bestOrder(0, -1));
            for (int k = 0; k < 6; k++) {
                due(things + " THINGS, the " + k + "-th", things > 5 ? STATE : k < things ? k : NOT,
                        x.bestOrder(0, k));
            }
        }
        house(8, 5);
        x.mend(0, 1, 0);
        x.mend(1, 2, 1);
        due("six are left", STATE, x.bestOrder(0, -1));
        x.mend(2, 1, 0);
        x.mend(2, 2, 1);
        due("five are left, he has one ahead", 6, x.bestOrder(0, -1));
        due("the first", 3, x.bestOrder(0, 0));
        due("the fifth", 7, x.bestOrder(0, 4));
        due("no sixth", NOT, x.bestOrder(0, 5));
        x.mend(2, 1, -1);
        due("of the house, but LOST", 6, x.bestOrder(0, -1));
        x.mend(2, 2, 0);
        due("not LOST again", STATE, x.bestOrder(0, -1));
        says("Answers, of several the one named first: BAD (-1)");
        outside("bestOrder(_, 0) of six", 0, 0, BAD, v -> x.bestOrder(v, 0));
        dueOf("bestOrder(0, _) of six", BAD, v -> x.bestOrder(0, v), -2, MIN);
    }

    private void orders() {
        says("BEST ORDER: how many (k -1), the k-th (NOT: there are not as many). BAD; STATE.");
        house(2, 5, 6, 7, 1, 2, 3, 4);
        outside("bestOrder(_, -1)", 0, 6, BAD, v -> x.bestOrder(v, -1));
        dueOf("bestOrder(0, _)", BAD, v -> x.bestOrder(0, v), -2, -3, MIN);
        dueOf("bestOrder(0, _)", NOT, v -> x.bestOrder(0, v), 2, 3, 5, 6, 8, 16, MAX);
        due("who wins none", 0, x.bestOrder(6, -1));
        due("who wins all", 2, x.bestOrder(2, -1));
        due("nobody has one yet", -1, x.of(0, 1));
        house(3);
        due("nobody is there", BAD, x.bestOrder(0, -1));
        house(0, 5);
        due("nothing is there", 0, x.bestOrder(0, -1));
        due("nothing is there", NOT, x.bestOrder(0, 0));
    }

    private void ordersThatAreAlike() {
        says("(of like ones the first by numbers)");
        house(5, 5, 5);
        for (int k = 0; k < 5; k++) {
            due("none is won by any order", k, x.bestOrder(0, k));
        }
        house(5, 0, 0);
        due("all stay", 0, x.bestOrder(0, -1));
        for (int k = 0; k < 5; k++) {
            due("all stay, each is put up once", k, x.bestOrder(0, k));
        }
        // the other bids 1 always; he bids more than 1 for KIND 3 with none, for KIND 2 with 1 at
        // most, for KIND 1 with 2, for KIND 0 with 4: all only by 4, 3, 2 and then 0 and 1
        x = new MissedSale();
        for (int kind : new int[] {0, 0, 1, 2, 3}) {
            x.thing(kind);
        }
        x.bidder(0, 1);
        x.bidder(0, 1);
        int[] loves = {6, 4, 3, 2};
        for (int kind = 0; kind < 4; kind++) {
            x.mend(0, 9 + kind, loves[kind]);
            x.mend(1, 9 + kind, 1);
        }
        Check.law(x, "v-n");
        due("all", 5, x.bestOrder(0, -1));
        int[] order = {4, 3, 2, 0, 1};
        for (int k = 0; k < 5; k++) {
            due("the " + k + "-th", order[k], x.bestOrder(0, k));
        }
        due("the other can have one", 1, x.bestOrder(1, -1));
    }

    private void feigned() {
        says("FEIGN: the least FEIGNS (0 .. 9), all else as now, by which one would win a THING;"
                + " NOT.");
        int[][] toFifty = {{51, 0}, {99, 0}, {50, 1}, {49, 2}, {43, 8}, {42, 9}, {41, NOT}, {40, NOT},
            {0, NOT}};
        for (int[] one : toFifty) {
            house(1, 50, one[0]);
            due(one[0] + " to 50", one[1], x.feign(10));
            x.mend(1, 7, 9);
            due("whatever he FEIGNS now", one[1], x.feign(10));
            due("he FEIGNS that still", 9, x.of(1, 7));
        }
        house(1, 0);
        due("0, alone", 1, x.feign(0));
        x.mend(0, 8, 1);
        due("0, alone, examined", NOT, x.feign(0));
        house(1, 50, 51);
        x.mend(1, 7, 3);
        x.mend(1, 8, 1);
        due("examined, who must FEIGN nothing", 0, x.feign(10));
        x.mend(0, 7, 1);
        due("examined, 51 to 51", NOT, x.feign(10));
        house(8, 1, 2, 3, 4, 5, 6, 7);
        due("the last of all", 0, x.feign(67));
        dueOf("feign(_)", BAD, v -> x.feign(v), -1, -10, 8, 9, 68, 69, 70, 77, MIN, MAX);
    }

    private void feignedUpTo99() {
        says("A BID: so many years, and FEIGNS (99 at most)");
        house(1, 98, 90);
        due("90 to 98", 9, x.feign(10));
        x.mend(0, 7, 1);
        due("90 to 99", NOT, x.feign(10));
        x.mend(1, 5, 99);
        due("99 to 99", NOT, x.feign(10));
        x.mend(0, 8, 1);
        due("99 to 0", 0, x.feign(10));
    }

    private void examinedFew() {
        says("EXAMINED: the fewest BIDDERS to be examined besides, so that one would win a THING: how"
                + " many; which (bits; of like ones the least); NOT.");
        house(1, 50, 49);
        due("he wins as it is", 0, x.examined(0, 0));
        due("which", 0, x.examined(0, 1));
        dueOf("49 to true 50, examined(10, _)", NOT, v -> x.examined(10, v), 0, 1);
        x.mend(1, 5, 50);
        dueOf("50 to true 50, examined(10, _)", NOT, v -> x.examined(10, v), 0, 1);
        x.mend(0, 7, 1);
        due("50 to feigned 51", 1, x.examined(10, 0));
        due("which", 1, x.examined(10, 1));
        x.mend(0, 8, 1);
        due("he is examined already", 0, x.examined(10, 0));
        due("which", 0, x.examined(10, 1));
        dueOf("an examined one cannot, examined(0, _)", NOT, v -> x.examined(0, v), 0, 1);
        x.mend(1, 5, 0);
        dueOf("a bid of 0 cannot, examined(10, _)", NOT, v -> x.examined(10, v), 0, 1);
        says("EXAMINED: how many (what 0), which (1). BAD; NOT.");
        outside("examined(10, _)", 0, 1, BAD, v -> x.examined(10, v));
        dueOf("examined(_, 0)", BAD, v -> x.examined(v, 0), -1, 1, 9, 11, 20, MIN, MAX);
        due("nobody more is examined", 0, x.of(1, 8));
    }

    private void examinedAll() {
        says("the fewest BIDDERS to be examined besides");
        for (int one = 0; one < 7; one++) {
            house(8, 20, 20, 20, 20, 20, 20, 20);
            for (int other = 0; other < 7; other++) {
                x.mend(other, 7, 1);
            }
            x.mend(one, 7, 0);
            x.mend(one, 5, 1);
            int bt = 10 * one + 7;
            due("all the others", 6, x.examined(bt, 0));
            due("which", 127 & ~(1 << one), x.examined(bt, 1));
            int there = (one + 1) % 7;
            x.mend(there, 8, 1);
            due("besides one who is", 5, x.examined(bt, 0));
            due("which", 127 & ~(1 << one) & ~(1 << there), x.examined(bt, 1));
            x.mend(there, 8, 0);
            x.mend(there, 5, 0);
            x.mend(there, 7, 0);
            due("besides one who bids less", 5, x.examined(bt, 0));
            due("which", 127 & ~(1 << one) & ~(1 << there), x.examined(bt, 1));
        }
        house(8, 1, 1, 1, 1, 1, 1, 1);
        dueOf("examined(_, 1)", BAD, v -> x.examined(v, 1), 8, 68, 69, 70, 77);
    }

    /** Each BIDDER's bid for a THING of each KIND is another: LOVES, and what he FEIGNS. */
    private void pairsOfAll() {
        says("---- things, bidders (bt: 10 times a BIDDER, and a THING).");
        int[][] loves = {{9, 2, 5, 1}, {3, 8, 5, 2}, {4, 4, 4, 4}, {9, 1, 6, 3}, {0, 9, 2, 8},
            {7, 7, 1, 5}, {1, 2, 3, 6}};
        int[] feigns = {1, 0, 3, 0, 2, 0, 4};
        x = new MissedSale();
        for (int t = 0; t < 8; t++) {
            x.thing(t % 4);
        }
        Check.law(x, "v");
        for (int b = 0; b < 7; b++) {
            x.bidder(0, 0);
            x.mend(b, 7, feigns[b]);
            for (int kind = 0; kind < 4; kind++) {
                x.mend(b, 9 + kind, loves[b][kind]);
            }
        }
        for (int b = 0; b < 7; b++) {
            for (int t = 0; t < 8; t++) {
                pairOf(b, t, loves, feigns);
            }
        }
    }

    private void pairOf(int b, int t, int[][] loves, int[] feigns) {
        int kind = t % 4;
        int bid = loves[b][kind] + feigns[b];
        int most = 0;
        int which = 0;
        boolean may = bid > 0;
        for (int other = 0; other < 7; other++) {
            int others = loves[other][kind] + feigns[other];
            if (other != b) {
                most = Math.max(most, others);
                which |= others >= bid ? 1 << other : 0;
                may &= others < bid || feigns[other] > 0;
            }
        }
        int least = Math.max(0, most + 1 - loves[b][kind]);
        int bt = 10 * b + t;
        due("feign(" + bt + ")", least > 9 ? NOT : least, x.feign(bt));
        due("examined(" + bt + ", 0)", may ? Integer.bitCount(which) : NOT, x.examined(bt, 0));
        due("examined(" + bt + ", 1)", may ? which : NOT, x.examined(bt, 1));
    }
}
