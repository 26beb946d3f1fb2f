import java.io.IOException;

/** The edges of promises 1 to 7, 9 and 42: THINGS, BIDDERS, their numbers, THE TAPE. */
public final class EdgeHouseTest extends Edges {
    private static final int[] LEAST = {0, -1, 0, 0, 0, 0, 0, 0, 0, 0, 0, 0, 0};
    private static final int[] MOST = {3, 6, 1, 99, 9, 99, 9, 9, 1, 9, 9, 9, 9};

    private EdgeHouseTest(String[] args) throws IOException {
        super(args);
    }

    public static void main(String[] args) throws IOException {
        EdgeHouseTest test = new EdgeHouseTest(args);
        test.emptyHouse();
        test.eightThings();
        test.sevenBidders();
        test.rowsOfBidders();
        test.rowsThatEnd();
        test.threesThatAreNotSo();
        test.rowsIntoAFullHouse();
        test.rowsThatAreNone();
        test.mendedWithin();
        test.ownersThatAreThere();
        test.numbersOfMend();
        test.tapeOf120();
        test.pairs();
        test.pairsOfAll();
        test.bids();
        test.counts();
        test.constants();
        test.calls512();
        test.check.end("EdgeHouseTest");
    }

    private void full() {
        x = new MissedSale();
        for (int i = 0; i < 8; i++) {
            x.thing(i % 4);
        }
        for (int i = 0; i < 7; i++) {
            x.bidder(i, 10 * i);
        }
    }

    private void emptyHouse() {
        says("An empty house.");
        x = new MissedSale();
        dueOf("count(_)", 0, v -> x.count(v), 0, 1, 2, 3, 4, 5);
        dueOf("led(_)", 0, v -> x.led(v), 0, 1, 2, 3, 4);
        dueOf("of(0, _)", VOID, v -> x.of(0, v), 0, 1, 2, 3, 4, 5, 6, 7, 8, 9, 10, 11, 12);
        dueOf("taken(_, 0)", NOTHING, v -> x.taken(v, 0), 0, 1, 2, 3, 4, 5);
        dueOf("put(_, 0, 1)", NOTHING, v -> x.put(v, 0, 1), 0, 1, 2, 3, 4, 5);
        due("wins(0)", BAD, x.wins(0));
        due("dealt(-1)", 0, x.dealt(-1));
        due("dealt(0)", BAD, x.dealt(0));
        due("hands()", 0, x.hands());
        due("later(60, 0, 0)", 0, x.later(60, 0, 0));
        due("missed(0)", 0, x.missed(0));
        due("missed(1)", NOT, x.missed(1));
        due("back()", STATE, x.back());
        due("undo()", STATE, x.undo());
        due("redo()", STATE, x.redo());
        due("trace(0)", BAD, x.trace(0));
        due("act(0, 0, 5)", 0, x.act(0, 0, 5));
        due("law()", -100, x.law());
        due("year()", 0, x.year());
    }

    private void eightThings() {
        says("A THING of a KIND: its number. BAD, FULL: 8.");
        x = new MissedSale();
        outside("thing(_)", 0, 3, BAD, v -> x.thing(v));
        due("none came", 0, x.count(0));
        for (int i = 0; i < 8; i++) {
            due("thing " + i, i, x.thing(i % 4));
        }
        dueOf("a ninth, thing(_)", FULL, v -> x.thing(v), 0, 1, 2, 3);
        due("there are eight", 8, x.count(0));
        says("7, as they come: KIND (0 .. 3), OWNER (-1: the house, or a BIDDER that is there; -1 at"
                + " first), LOST (0, 1; 0 at first), MISSED (0 .. 99 years still; 0 at first).");
        for (int i = 0; i < 8; i++) {
            due("KIND of " + i, i % 4, x.of(i, 0));
            due("OWNER of " + i, -1, x.of(i, 1));
            due("LOST of " + i, 0, x.of(i, 2));
            due("MISSED of " + i, 0, x.of(i, 3));
        }
        dueOf("of(_, 0)", VOID, v -> x.of(v, 0), -1, 8, MIN, MAX);
        says("Answers, of several the one named first: BAD (-1): no such number, or it is not as"
                + " said; NOT (-2): as told; FULL (-3); STATE (-5): as told; -11 to -14.");
        outside("thing(_) of a full house", 0, 3, BAD, v -> x.thing(v));
    }

    private void sevenBidders() {
        says("A BIDDER: the number. BAD, FULL: 7.");
        x = new MissedSale();
        outside("bidder(_, 0)", 0, 9, BAD, v -> x.bidder(v, 0));
        outside("bidder(9, _)", 0, 99, BAD, v -> x.bidder(9, v));
        due("none came", 0, x.count(1));
        int[] constants = {0, 9, 0, 9, 1, 8, 5};
        int[] lives = {0, 99, 99, 0, 1, 98, 40};
        for (int i = 0; i < 7; i++) {
            due("bidder " + i, i, x.bidder(constants[i], lives[i]));
        }
        due("an eighth", FULL, x.bidder(0, 0));
        due("an eighth", FULL, x.bidder(9, 99));
        due("there are seven", 7, x.count(1));
        says("BIDDERS 0 .. 6, as they come: CONSTANT (0 .. 9; 5 at first), LIFE (0 .. 99 years left;"
                + " 40 at first), HEIRS (0 .. 9 years they sign for; 0 at first), FEIGNS (0 .. 9"
                + " years; 0 at first), SLIPS (0, 1: examined; 0 at first), LOVES of each KIND"
                + " (0 .. 9; 5 at first).");
        for (int i = 0; i < 7; i++) {
            int[] want = {constants[i], lives[i], 0, 0, 0, 5, 5, 5, 5};
            for (int what = 4; what < 13; what++) {
                due("of(" + i + ", " + what + ")", want[what - 4], x.of(i, what));
            }
        }
        dueOf("of(_, 4)", VOID, v -> x.of(v, 4), -1, 7, MIN, MAX);
        says("Answers, of several the one named first: BAD (-1)");
        outside("bidder(_, 0) of a full house", 0, 9, BAD, v -> x.bidder(v, 0));
        outside("bidder(0, _) of a full house", 0, 99, BAD, v -> x.bidder(0, v));
    }

    private void rowsOfBidders() {
        says("BIDDERS FROM A ROW on a SHELF, from place i on, n (1 .. 7) of them: how many came.");
        x = new MissedSale();
        x.row(0, 0, 60);
        x.row(5, 0, 3);
        outside("bidders(0, 0, _)", 1, 7, BAD, v -> x.bidders(0, 0, v));
        outside("bidders(_, 0, 1)", 0, 5, BAD, v -> x.bidders(v, 0, 1));
        due("none came", 0, x.count(1));
        due("bidders(0, 0, 1)", 1, x.bidders(0, 0, 1));
        due("bidders(5, 0, 1)", 1, x.bidders(5, 0, 1));
        due("two came", 2, x.count(1));
        x = new MissedSale();
        x.row(0, 0, 60);
        due("bidders(0, 0, 7)", 7, x.bidders(0, 0, 7));
        due("seven came", 7, x.count(1));
        x = new MissedSale();
        bytes(0, 1, 11, 2, 3, 33, 4, 5, 55, 6);
        due("n 2 of three", 2, x.bidders(0, 0, 2));
        int[][] want = {{1, 11, 2}, {3, 33, 4}};
        for (int i = 0; i < 2; i++) {
            due("CONSTANT of " + i, want[i][0], x.of(i, 4));
            due("LIFE of " + i, want[i][1], x.of(i, 5));
            due("FEIGNS of " + i, want[i][2], x.of(i, 7));
            int one = i;
            dueOf("of(" + i + ", _)", 0, v -> x.of(one, v), 6, 8);
            dueOf("of(" + i + ", _)", 5, v -> x.of(one, v), 9, 10, 11, 12);
        }
        due("they are no changes", 0, x.count(3));
    }

    private void rowsThatEnd() {
        says("it ends where the row is missing, ends (within a three, too)");
        for (int length = 0; length <= 7; length++) {
            x = new MissedSale();
            x.row(0, 0, length);
            due("a row of " + length, length / 3, x.bidders(0, 0, 7));
            due("so many came of " + length, length / 3, x.count(1));
        }
        x = new MissedSale();
        x.row(0, 0, 60);
        x.put(0, 57, 8);
        dueOf("bidders(0, _, 7)", 0, v -> x.bidders(0, v, 7),
                -1, -2, -3, -60, 58, 59, 60, 61, MIN, MIN + 1, MIN + 2, MAX, MAX - 1, MAX - 2);
        due("none came", 0, x.count(1));
        due("the last three", 1, x.bidders(0, 57, 7));
        due("CONSTANT of it", 8, x.of(0, 4));
        due("the last but one", 2, x.bidders(0, 54, 7));
        due("it ends within a three", 1, x.bidders(0, 56, 7));
        x = new MissedSale();
        due("the row is missing", 0, x.bidders(0, 0, 7));
        x.row(0, 0, 3);
        x.keep(0, -1);
        due("the row is missing again", 0, x.bidders(0, 0, 7));
        due("none came", 0, x.count(1));
    }

    private void threesThatAreNotSo() {
        says("one is not so, or BIDDERS are FULL: those ahead came.");
        int[][] notSo = {{-1, 0, 0}, {10, 0, 0}, {0, -1, 0}, {0, 100, 0}, {0, 0, -1}, {0, 0, 10},
            {127, 0, 0}, {-128, 0, 0}, {0, 127, 0}, {0, -128, 0}, {0, 0, 127}, {0, 0, -128}};
        for (int[] three : notSo) {
            for (int place = 0; place < 3; place++) {
                x = new MissedSale();
                x.row(0, 0, 9);
                for (int k = 0; k < 3; k++) {
                    x.put(0, 3 * place + k, three[k]);
                }
                String told = three[0] + ", " + three[1] + ", " + three[2] + " at " + 3 * place;
                due(told, place, x.bidders(0, 0, 3));
                due("those ahead of " + told, place, x.count(1));
            }
        }
        int[][] so = {{0, 0, 0}, {9, 99, 9}, {9, 0, 0}, {0, 99, 0}, {0, 0, 9}};
        for (int[] three : so) {
            x = new MissedSale();
            bytes(0, three);
            due("the last that is so", 1, x.bidders(0, 0, 1));
            due("CONSTANT", three[0], x.of(0, 4));
            due("LIFE", three[1], x.of(0, 5));
            due("FEIGNS", three[2], x.of(0, 7));
        }
    }

    private void rowsIntoAFullHouse() {
        says("or BIDDERS are FULL: those ahead came.");
        for (int there = 0; there <= 7; there++) {
            x = new MissedSale();
            for (int i = 0; i < there; i++) {
                x.bidder(1, 1);
            }
            x.row(0, 0, 60);
            due(there + " are there", 7 - there, x.bidders(0, 0, 7));
            due("seven then", 7, x.count(1));
            due("those of before stay", there > 0 ? 1 : 0, x.of(0, 4));
        }
    }

    private void rowsThatAreNone() {
        says("BAD, -12 (no ROW of bytes; a SHELF that holds nothing is missing).");
        x = new MissedSale();
        shelvesWithoutBytes();
        dueOf("bidders(_, 0, 1)", KIND, v -> x.bidders(v, 0, 1), 1, 2, 3, 4, 5);
        dueOf("bidders(1, _, 1)", KIND, v -> x.bidders(1, v, 1), -1, 3, 60, MIN, MAX);
        dueOf("BAD first, bidders(1, 0, _)", BAD, v -> x.bidders(1, 0, v), 0, 8);
        dueOf("BAD first, bidders(5, 0, _)", BAD, v -> x.bidders(5, 0, v), 0, 8);
        dueOf("BAD first, bidders(0, 0, _)", BAD, v -> x.bidders(0, 0, v), 0, 8);
        x.row(1, 1, 0);
        due("an empty row of shorts", KIND, x.bidders(1, 0, 1));
        due("nothing", 0, x.bidders(0, 0, 1));
        due("none came", 0, x.count(1));
    }

    private void mendedWithin() {
        says("KIND (what 0), OWNER (1), LOST (2), MISSED (3) of a THING, CONSTANT (4), LIFE (5),"
                + " HEIRS (6), FEIGNS (7), SLIPS (8) of a BIDDER, LOVE (9 and the KIND: 9 .. 12) of"
                + " one becomes v: what it was. VOID: BAD.");
        for (int what = 0; what < 13; what++) {
            full();
            int of = what;
            int last = what < 4 ? 7 : 6;
            int was = x.of(last, what);
            outside("mend(" + last + ", " + what + ", _)", LEAST[what], MOST[what], VOID,
                    v -> x.mend(last, of, v));
            due("what " + what + " stays", was, x.of(last, what));
            due("it is no change", 0, x.count(3));
            due("the least of " + what, was, x.mend(last, what, LEAST[what]));
            due("it is so", LEAST[what], x.of(last, what));
            due("the most of " + what, LEAST[what], x.mend(last, what, MOST[what]));
            due("it is so", MOST[what], x.of(last, what));
            due("the same again", MOST[what], x.mend(last, what, MOST[what]));
            due("the first one's " + what, x.of(0, what), x.mend(0, what, LEAST[what]));
            due("it is so", LEAST[what], x.of(0, what));
            due("the other's stays", MOST[what], x.of(last, what));
        }
        full();
        for (int what = 0; what < 13; what++) {
            x.mend(5, what, what == 2 || what == 8 ? 1 : 2);
        }
        int[] want = {2, 2, 1, 2, 2, 2, 2, 2, 1, 2, 2, 2, 2};
        for (int what = 0; what < 13; what++) {
            due("each by itself, of(5, " + what + ")", want[what], x.of(5, what));
        }
    }

    private void ownersThatAreThere() {
        says("OWNER (-1: the house, or a BIDDER that is there; -1 at first)");
        x = new MissedSale();
        x.thing(0);
        for (int bidders = 0; bidders <= 7; bidders++) {
            due("no BIDDER " + bidders, VOID, x.mend(0, 1, bidders));
            due("-2", VOID, x.mend(0, 1, -2));
            due("the house's again", bidders - 1, x.mend(0, 1, -1));
            if (bidders < 7) {
                x.bidder(1, 1);
                due("BIDDER " + bidders + " has come", -1, x.mend(0, 1, bidders));
            }
        }
    }

    private void numbersOfMend() {
        says("As of mend() (0 to 12). VOID: BAD.");
        full();
        outside("of(0, _)", 0, 12, VOID, v -> x.of(0, v));
        outside("mend(0, _, 0)", 0, 12, VOID, v -> x.mend(0, v, 0));
        for (int what = 0; what < 13; what++) {
            int of = what;
            int last = what < 4 ? 7 : 6;
            outside("of(_, " + what + ")", 0, last, VOID, v -> x.of(v, of));
            outside("mend(_, " + what + ", 0)", 0, last, VOID, v -> x.mend(v, of, 0));
        }
        due("nothing was mended", 0, x.count(3));
        x = new MissedSale();
        x.thing(0);
        dueOf("a THING, no BIDDER: of(0, _)", VOID, v -> x.of(0, v), 4, 5, 6, 7, 8, 9, 10, 11, 12);
        dueOf("a THING, no BIDDER: mend(0, _, 0)", VOID, v -> x.mend(0, v, 0), 4, 8, 9, 12);
        x = new MissedSale();
        x.bidder(0, 0);
        dueOf("a BIDDER, no THING: of(0, _)", VOID, v -> x.of(0, v), 0, 1, 2, 3);
        dueOf("a BIDDER, no THING: mend(0, _, 0)", VOID, v -> x.mend(0, v, 0), 0, 1, 2, 3);
    }

    private void tapeOf120() {
        says("A byte (0 .. 255) comes to THE TAPE: how many it has. BAD, FULL (120).");
        x = new MissedSale();
        outside("feed(_)", 0, 255, BAD, v -> x.feed(v));
        due("none came", 0, x.count(2));
        due("feed(0)", 1, x.feed(0));
        due("feed(255)", 2, x.feed(255));
        for (int i = 3; i <= 120; i++) {
            due("feed " + i, i, x.feed('c'));
        }
        dueOf("feed(_) of a full tape", FULL, v -> x.feed(v), 0, 'c', 255);
        outside("feed(_) of a full tape", 0, 255, BAD, v -> x.feed(v));
        due("it has 120", 120, x.count(2));
        due("the first byte stands first", -100, x.law());
        says("THE TAPE is empty then.");
        due("it has none", 0, x.count(2));
        due("feed('7')", 1, x.feed('7'));
        due("law()", 1, x.law());
        due("it has none", 0, x.count(2));
    }

    private void pairs() {
        says("---- things, bidders (bt: 10 times a BIDDER, and a THING).");
        full();
        Check.law(x, "l");
        for (int b = 0; b < 7; b++) {
            due("years(" + (10 * b + 7) + ", 0)", 10 * b, x.years(10 * b + 7, 0));
            dueOf("years(_, 0)", BAD, v -> x.years(v, 0), 10 * b + 8, 10 * b + 9);
        }
        dueOf("years(_, 0)", BAD, v -> x.years(v, 0), -1, -7, -10, -67, 70, 77, 100, 167, MIN, MAX);
        house(1, 30);
        due("years(0, 0)", 30, x.years(0, 0));
        dueOf("years(_, 0)", BAD, v -> x.years(v, 0), 1, 10, 11, -1);
        says("For how many years one would miss a THING (what 0), his BID (1). BAD.");
        outside("years(0, _)", 0, 1, BAD, v -> x.years(0, v));
        x.mend(0, 7, 9);
        due("years(0, 0)", 30, x.years(0, 0));
        due("years(0, 1)", 39, x.years(0, 1));
        house(1);
        due("a THING, no BIDDER", BAD, x.years(0, 0));
        house(0, 1);
        due("a BIDDER, no THING", BAD, x.years(0, 0));
    }

    private void pairsOfAll() {
        says("---- things, bidders (bt: 10 times a BIDDER, and a THING).");
        full();
        for (int b = 0; b < 7; b++) {
            x.mend(b, 7, b);
            for (int kind = 0; kind < 4; kind++) {
                x.mend(b, 9 + kind, (b + 2 * kind) % 10);
            }
        }
        Check.law(x, "c*10+v");
        for (int b = 0; b < 7; b++) {
            for (int t = 0; t < 8; t++) {
                int years = 10 * b + (b + 2 * (t % 4)) % 10;
                due("years(" + (10 * b + t) + ", 0)", years, x.years(10 * b + t, 0));
                due("years(" + (10 * b + t) + ", 1)", years + b, x.years(10 * b + t, 1));
            }
        }
    }

    private void bids() {
        says("A BID: so many years, and FEIGNS (99 at most)");
        int[][] feigned = {{0, 0, 0}, {0, 9, 9}, {89, 9, 98}, {90, 9, 99}, {91, 9, 99}, {99, 0, 99},
            {99, 1, 99}, {99, 9, 99}};
        for (int[] one : feigned) {
            house(1, one[0]);
            x.mend(0, 7, one[1]);
            due(one[0] + " and " + one[1], one[2], x.years(0, 1));
            due("he would miss it for " + one[0], one[0], x.years(0, 0));
        }
        says("one who is examined (SLIPS) bids no more than he would miss, and if he FEIGNS anything,"
                + " 0.");
        int[][] examined = {{50, 0, 50}, {50, 1, 0}, {50, 9, 0}, {99, 0, 99}, {0, 0, 0}, {0, 9, 0}};
        for (int[] one : examined) {
            house(1, one[0]);
            x.mend(0, 7, one[1]);
            x.mend(0, 8, 1);
            due(one[0] + " and " + one[1] + ", examined", one[2], x.years(0, 1));
            due("he would miss it for " + one[0], one[0], x.years(0, 0));
        }
    }

    private void counts() {
        says("How many: 0 THINGS, 1 BIDDERS, 2 bytes on THE TAPE, 3 changes that may be UNDONE, 4"
                + " BODIES, 5 bodies that ran in the latest act(). BAD.");
        full();
        x.feed('c');
        for (int i = 1; i <= 3; i++) {
            x.mend(0, 3, i);
        }
        x.undo();
        for (int i = 0; i < 4; i++) {
            x.body(1);
        }
        x.act(0, 3, 0);
        // tells, misses, bids of SPOON, bids of BIDS, loses
        int[] want = {8, 7, 1, 2, 4, 5};
        for (int what = 0; what < 6; what++) {
            due("count(" + what + ")", want[what], x.count(what));
        }
        outside("count(_)", 0, 5, BAD, v -> x.count(v));
    }

    private void constants() {
        says("public static final int BAD = -1, NOT = -2, FULL = -3, STATE = -5, VOID = -2000000000;");
        due("BAD", -1, MissedSale.BAD);
        due("NOT", -2, MissedSale.NOT);
        due("FULL", -3, MissedSale.FULL);
        due("STATE", -5, MissedSale.STATE);
        says("VOID is -2000000000.");
        due("VOID", -2000000000, MissedSale.VOID);
    }

    private void calls512() {
        says("An object is used for at most 512 calls after it has been made");
        x = new MissedSale();
        x.bidder(9, 99);
        for (int call = 2; call < 512; call++) {
            due("call " + call + " is a year", 0, x.year());
        }
        due("call 512", 510, x.led(4));
        x = new MissedSale();
        x.thing(0);
        for (int call = 2; call < 512; call++) {
            due("call " + call + " is a change", (call - 2) % 100, x.mend(0, 3, (call - 1) % 100));
        }
        due("call 512", 40, x.count(3));
        x = new MissedSale();
        for (int call = 1; call < 512; call++) {
            due("call " + call + " is a law", -100, x.law());
        }
        due("call 512", 0, x.count(2));
    }
}
