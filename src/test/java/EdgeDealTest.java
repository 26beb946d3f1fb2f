import java.io.IOException;

/** The edges of promises 16 to 23: dealing, years gone through, BOOKS, turns, draws. */
public final class EdgeDealTest extends Edges {
    private EdgeDealTest(String[] args) throws IOException {
        super(args);
    }

    public static void main(String[] args) throws IOException {
        EdgeDealTest test = new EdgeDealTest(args);
        test.dealtToAll();
        test.dealtAlike();
        test.dealtByWhatOneHas();
        test.hands();
        test.handsWithOneLess();
        test.years();
        test.yearsOfBidders();
        test.quiet();
        test.longest();
        test.shelvesOfBooks();
        test.booksOnAnyShelf();
        test.books();
        test.booksThatAreLonger();
        test.constants();
        test.lives();
        test.fitsOfTheLast();
        test.fitsRefused();
        test.turnsRefused();
        test.turnsOfOne();
        test.turnsOfMore();
        test.drawsRefused();
        test.drawsOfNone();
        test.drawsBySlipped();
        test.drawsThatWrap();
        test.check.end("EdgeDealTest");
    }

    private void shares(int... want) {
        for (int b = 0; b < want.length; b++) {
            due("dealt(" + b + ")", want[b], x.dealt(b));
        }
    }

    private void dealtToAll() {
        says("DEALT: each BIDDER is to have one THING of the house that is not LOST at most");
        house(8, 99, 99, 99, 99, 99, 99, 99);
        due("eight THINGS, seven BIDDERS", 693, x.dealt(-1));
        shares(0, 1, 2, 3, 4, 5, 6);
        house(3, 99, 99, 99, 99, 99, 99, 99);
        due("three THINGS", 297, x.dealt(-1));
        shares(0, 1, 2, 8, 8, 8, 8);
        house(8, 40);
        due("one BIDDER", 40, x.dealt(-1));
        shares(0);
        x.mend(0, 2, 1);
        x.mend(1, 1, 0);
        x.mend(2, 1, 0);
        x.mend(2, 2, 1);
        due("without the LOST, and his own", 40, x.dealt(-1));
        shares(3);
        house(0, 40, 50);
        due("no THINGS", 0, x.dealt(-1));
        shares(8, 8);
        house(2);
        due("no BIDDERS", 0, x.dealt(-1));
        due("no BIDDERS, dealt(0)", BAD, x.dealt(0));
        says("DEALT: years (bidder -1), which one a BIDDER has. BAD.");
        house(2, 40, 50, 60);
        outside("dealt(_)", -1, 2, BAD, v -> x.dealt(v));
        due("years", 110, x.dealt(-1));
        shares(8, 0, 1);
    }

    private void dealtAlike() {
        says("(of like ones the first by BIDDERS, none, 8, last)");
        house(8, 0, 0, 0, 0, 0, 0, 0);
        due("nobody would miss any", 0, x.dealt(-1));
        shares(0, 1, 2, 3, 4, 5, 6);
        house(2, 0, 0, 0);
        due("nobody would miss any", 0, x.dealt(-1));
        shares(0, 1, 8);
        house(2, 0, 7, 7);
        due("the first would not", 14, x.dealt(-1));
        shares(8, 0, 1);
        house(2, 7, 0, 7);
        due("the second would not", 14, x.dealt(-1));
        shares(0, 8, 1);
        // KINDS 0 .. 3; the first likes 3 best, the second 3 only
        x = new MissedSale();
        for (int kind = 0; kind < 4; kind++) {
            x.thing(kind);
        }
        x.bidder(0, 0);
        x.bidder(0, 0);
        Check.law(x, "v");
        int[][] loves = {{1, 8, 8, 9}, {0, 0, 0, 9}};
        for (int b = 0; b < 2; b++) {
            for (int kind = 0; kind < 4; kind++) {
                x.mend(b, 9 + kind, loves[b][kind]);
            }
        }
        due("8 and 9", 17, x.dealt(-1));
        shares(1, 3);
        x.mend(1, 12, 1);
        due("9 and 0, or 8 and 1", 9, x.dealt(-1));
        shares(1, 3);
        x.mend(1, 12, 0);
        due("9 and 0", 9, x.dealt(-1));
        shares(3, 0);
    }

    private void dealtByWhatOneHas() {
        says("(as now, with what he has now)");
        house(4, 40, 40);
        Check.law(x, "20-n*20+1");
        due("21 and 21", 42, x.dealt(-1));
        x.mend(0, 1, 0);
        due("he has one, 1 and 21", 22, x.dealt(-1));
        x.mend(1, 1, 0);
        due("he has two, 0 and 21", 21, x.dealt(-1));
        shares(2, 3);
        says("so that the years for which each would miss his");
        x.mend(1, 7, 9);
        due("what is feigned does not count", 21, x.dealt(-1));
    }

    /** THINGS of KIND 0 that the first has, and of KIND 1 that the second has. */
    private void twoOwners(int firsts, int seconds) {
        x = new MissedSale();
        x.bidder(0, 0);
        x.bidder(0, 0);
        Check.law(x, "v");
        for (int i = 0; i < firsts + seconds; i++) {
            x.thing(i < firsts ? 0 : 1);
            x.mend(i, 1, i < firsts ? 0 : 1);
        }
    }

    private void hands() {
        says("are such that each OWNER would miss the other's longer than his own");
        twoOwners(1, 1);
        due("alike", 0, x.hands());
        x.mend(0, 10, 6);
        due("the first's longer by one", 0, x.hands());
        x.mend(1, 9, 6);
        due("each longer by one", 1, x.hands());
        x.mend(0, 9, 6);
        due("the first's alike", 0, x.hands());
        twoOwners(4, 4);
        x.mend(0, 10, 9);
        x.mend(1, 9, 9);
        due("four and four", 16, x.hands());
        says("how many pairs of THINGS (not LOST, of unlike OWNERS who are BIDDERS)");
        x.mend(0, 2, 1);
        due("one is LOST", 12, x.hands());
        x.mend(7, 2, 1);
        due("one of each is LOST", 9, x.hands());
        x.mend(1, 1, -1);
        due("one is the house's", 6, x.hands());
        x.mend(2, 1, 1);
        x.mend(3, 1, 1);
        due("all are the second's", 0, x.hands());
        house(8, 1, 2);
        due("all are the house's", 0, x.hands());
        house(2);
        due("no BIDDERS", 0, x.hands());
    }

    private void handsWithOneLess() {
        says("(as if he had one less)");
        twoOwners(1, 1);
        x.mend(0, 10, 9);
        x.mend(1, 9, 9);
        Check.law(x, "n=0?v;5");
        due("with none", 1, x.hands());
        Check.law(x, "n=1?v;5");
        due("not with one", 0, x.hands());
        twoOwners(2, 1);
        x.mend(0, 10, 9);
        x.mend(1, 9, 9);
        due("each as he has them", 2, x.hands());
        Check.law(x, "n=0?v;5");
        due("the first has one besides", 0, x.hands());
        Check.law(x, "n=1?v;5");
        due("the second has none besides", 0, x.hands());
        Check.law(x, "n<2?v;5");
        due("with one, with none", 2, x.hands());
    }

    private void years() {
        says("YEARS: behind n (0 .. 60): which THINGS are MISSED still (bits)");
        house(8, 5);
        int[] missed = {0, 1, 2, 59, 60, 61, 98, 99};
        for (int i = 0; i < 8; i++) {
            x.mend(i, 2, 1);
            x.mend(i, 3, missed[i]);
        }
        for (int n : new int[] {0, 1, 2, 3, 58, 59, 60}) {
            int bits = 0;
            for (int i = 0; i < 8; i++) {
                bits |= missed[i] > n ? 1 << i : 0;
            }
            due("later(" + n + ", 0, 0)", bits, x.later(n, 0, 0));
        }
        due("now", 254, x.later(0, 0, 0));
        due("behind 60", 224, x.later(60, 0, 0));
        for (int what = 0; what < 3; what++) {
            int of = what;
            outside("later(_, 0, " + what + ")", 0, 60, BAD, v -> x.later(v, 0, of));
        }
        due("in thought alone", 99, x.of(7, 3));
        says("YEARS: which are MISSED (what 0: bits; one 0), LIFE (1), HEIRS (2) of one. BAD.");
        outside("later(0, _, 0)", 0, 0, BAD, v -> x.later(0, v, 0));
        outside("later(0, _, 1)", 0, 0, BAD, v -> x.later(0, v, 1));
        outside("later(0, _, 2)", 0, 0, BAD, v -> x.later(0, v, 2));
        outside("later(0, 0, _)", 0, 2, BAD, v -> x.later(0, 0, v));
        house(1);
        due("nobody is there", 0, x.later(0, 0, 0));
        due("nobody is there", BAD, x.later(0, 0, 1));
        due("nobody is there", BAD, x.later(0, 0, 2));
        house(0, 1, 2, 3, 4, 5, 6, 7);
        due("the last BIDDER", 7, x.later(0, 6, 1));
        outside("later(0, _, 1)", 0, 6, BAD, v -> x.later(0, v, 1));
    }

    private void yearsOfBidders() {
        says("LIFE of each BIDDER one less (0 at least); of whom LIFE is 0 then HEIRS one less (0 at"
                + " least).");
        int[][] ones = {{0, 9}, {1, 9}, {5, 9}, {60, 9}, {61, 9}, {99, 0}, {0, 0}};
        x = new MissedSale();
        for (int b = 0; b < 7; b++) {
            x.bidder(0, ones[b][0]);
            x.mend(b, 6, ones[b][1]);
        }
        for (int b = 0; b < 7; b++) {
            for (int n : new int[] {0, 1, 2, 4, 5, 6, 8, 9, 10, 13, 14, 59, 60}) {
                int life = Math.max(0, ones[b][0] - n);
                // the year in which LIFE becomes 0 is the first that the HEIRS sign for
                int gone = ones[b][0] > 0 ? n - ones[b][0] + 1 : n;
                int heirs = Math.max(0, ones[b][1] - Math.max(0, gone));
                due("LIFE of " + b + " behind " + n, life, x.later(n, b, 1));
                due("HEIRS of " + b + " behind " + n, heirs, x.later(n, b, 2));
            }
        }
        due("LIFE 1 and 9 HEIRS behind 1", 8, x.later(1, 1, 2));
        due("LIFE 60 and 9 HEIRS behind 60", 8, x.later(60, 3, 2));
        due("LIFE 61 and 9 HEIRS behind 60", 9, x.later(60, 4, 2));
    }

    private void quiet() {
        says("QUIET: behind how many years (0 .. 60) none is MISSED; NOT.");
        house(8, 5);
        int[][] last = {{0, 0}, {1, 1}, {59, 59}, {60, 60}, {61, NOT}, {99, NOT}};
        for (int[] one : last) {
            x.mend(7, 3, one[0]);
            due("MISSED " + one[0], one[1], x.missed(0));
        }
        x.mend(7, 3, 3);
        x.mend(0, 3, 4);
        due("the longest counts", 4, x.missed(0));
        says("QUIET (what 0), LONGEST (1). BAD; NOT.");
        outside("missed(_)", 0, 1, BAD, v -> x.missed(v));
        x = new MissedSale();
        outside("missed(_) of an empty house", 0, 1, BAD, v -> x.missed(v));
        due("nothing is there", 0, x.missed(0));
    }

    private void longest() {
        says("LONGEST: which THING is MISSED longest now (of like ones the least; NOT: none is).");
        house(8, 5);
        due("none is", NOT, x.missed(1));
        x.mend(7, 3, 1);
        due("the last for 1", 7, x.missed(1));
        x.mend(3, 3, 1);
        due("of like ones", 3, x.missed(1));
        x.mend(0, 3, 1);
        due("of like ones", 0, x.missed(1));
        x.mend(7, 3, 2);
        due("longer by one", 7, x.missed(1));
        x.mend(5, 3, 99);
        due("longest of all, though never quiet", 5, x.missed(1));
        x = new MissedSale();
        due("nothing is there", NOT, x.missed(1));
    }

    private void shelvesOfBooks() {
        says("JUDGED (ss: 10 times the SHELF of the CATALOGUE, and that of the BOOK: BAD, -11, -12;"
                + " the CATALOGUE first). NOT.");
        house(1, 5);
        shelvesWithoutBytes();
        for (int ss : new int[] {-1, -11, 6, 9, 16, 56, 59, 60, 66, 99, 100, 155, MIN, MAX}) {
            due("judge(" + ss + ")", BAD, x.judge(ss));
            due("fits(" + ss + ", 0, 0)", BAD, x.fits(ss, 0, 0));
        }
        for (int ss : new int[] {0, 1, 2, 3, 4, 5}) {
            due("no CATALOGUE, judge(" + ss + ")", NOTHING, x.judge(ss));
            due("no CATALOGUE, fits(" + ss + ", 0, 0)", NOTHING, x.fits(ss, 0, 0));
        }
        for (int ss : new int[] {10, 20, 30, 40, 50, 11, 12, 15, 51, 55}) {
            due("a CATALOGUE that is none, judge(" + ss + ")", KIND, x.judge(ss));
            due("a CATALOGUE that is none, fits(" + ss + ", 0, 3)", KIND, x.fits(ss, 0, 3));
        }
        bytes(0, 0);
        for (int ss : new int[] {1, 2, 3, 4, 5}) {
            due("a BOOK that is none, judge(" + ss + ")", KIND, x.judge(ss));
            due("a BOOK that is none, fits(" + ss + ", 0, 2)", KIND, x.fits(ss, 0, 2));
        }
        x.keep(5, -1);
        due("no BOOK", NOTHING, x.judge(5));
        due("no BOOK", NOTHING, x.fits(5, 0, 1));
        due("one ROW for both", NOT, x.judge(0));
        bytes(5, 0);
        due("the last SHELF", NOT, x.judge(55));
        due("the last SHELF", NOT, x.judge(5));
        due("the last SHELF", NOT, x.judge(50));
    }

    private void booksOnAnyShelf() {
        says("ss: 10 times the SHELF of the CATALOGUE, and that of the BOOK");
        x = new MissedSale();
        x.thing(0);
        x.thing(1);
        x.bidder(0, 0);
        x.bidder(0, 0);
        Check.law(x, "v");
        x.mend(1, 9, 6);
        x.mend(0, 10, 6);
        // BIDDER 1 wins THING 0, BIDDER 0 wins THING 1
        int[][] rows = {{0}, {1}, {0, 0}, {1, 9}, {0, 9}, {1, 1}};
        int[][] won = {{1}, {0}, {1, 9}, {0}, {1}, {0, 9}};
        for (int shelf = 0; shelf < 6; shelf++) {
            bytes(shelf, rows[shelf]);
        }
        for (int ss = 0; ss < 56; ss++) {
            if (ss % 10 > 5) {
                continue;
            }
            int[] so = won[ss / 10];
            int[] book = rows[ss % 10];
            int wrong = NOT;
            for (int k = book.length - 1; k >= 0; k--) {
                wrong = k >= so.length || so[k] != book[k] ? k : wrong;
            }
            due("judge(" + ss + ")", wrong, x.judge(ss));
            due("fits(" + ss + ", 0, 0)", wrong == NOT ? 10 : 0, x.fits(ss, 0, 0));
        }
    }

    private void books() {
        says("JUDGED: the first that is not so (more than the CATALOGUE, too); NOT.");
        int[] so = {1, 9, 9, 1};
        for (int k = 0; k < 4; k++) {
            toldAt(k, -128, -1, so);
            toldAt(k, 0, 127, so);
        }
        bytes(1, 0, 0, 0, 0);
        due("the first of many", 0, x.judge(1));
        bytes(1, 1, 9, 9, 0);
        due("the last", 3, x.judge(1));
        for (int length = 0; length <= 4; length++) {
            x.row(1, 0, length);
            for (int k = 0; k < length; k++) {
                x.put(1, k, so[k]);
            }
            due("a BOOK of " + length, NOT, x.judge(1));
        }
        says("10: not known, or as NOT");
        bytes(1, 10, 10, 10, 10);
        due("nothing is known", NOT, x.judge(1));
        x.mend(0, 5, 0);
        x.mend(1, 5, 0);
        bytes(1, 10, NOT, 9, 10);
        due("what stays", NOT, x.judge(1));
        bytes(1, 10, NOT, 9, 9);
        due("what stays is not passed over", 3, x.judge(1));
    }

    /** A BOOK that says what is so but for one place, where it says this and that. */
    private void toldAt(int k, int least, int most, int[] so) {
        house(4, 5, 6);
        x.mend(3, 1, 0);
        bytes(0, 0, 0, 3, 1);
        bytes(1, so);
        due("all is so", NOT, x.judge(1));
        for (int told = least; told <= most; told++) {
            x.put(1, k, told);
            due(told + " at " + k, told == so[k] || told == 10 ? NOT : k, x.judge(1));
        }
    }

    private void booksThatAreLonger() {
        says("(more than the CATALOGUE, too)");
        house(1, 5);
        bytes(0, 0);
        for (int more : new int[] {0, 8, 9, 10, NOT, 1, -1}) {
            bytes(1, 0, more);
            due("one more, " + more, 1, x.judge(1));
        }
        x.row(0, 0, 0);
        bytes(1, 10);
        due("an empty CATALOGUE", 0, x.judge(1));
        x.row(1, 0, 0);
        due("both are empty", NOT, x.judge(1));
        bytes(0, 0, 1, 0);
        bytes(1, 0, 9);
        due("it ends with what is none", 1, x.judge(1));
        x.row(0, 0, 60);
        x.row(1, 0, 16);
        for (int k = 1; k < 16; k++) {
            x.put(1, k, 9);
        }
        due("sixteen", NOT, x.judge(1));
        x.put(1, 15, 0);
        due("the sixteenth", 15, x.judge(1));
        x.row(1, 0, 60);
        for (int k = 1; k < 60; k++) {
            x.put(1, k, 9);
        }
        due("16 at most", 16, x.judge(1));
        due("so none fits", 0, x.fits(1, 0, 0));
        due("so none fits", NOT, x.fits(1, 0, 1));
    }

    private void constants() {
        says("CONSTANTS: by how many CONSTANTS (0 .. 9) of one all is so; the least (NOT).");
        x = new MissedSale();
        x.thing(0);
        x.bidder(4, 40);
        x.bidder(9, 40);
        Check.law(x, "c");
        fitsFromEndToEnd(0, 4, 9);
        due("he is as he was", 4, x.of(0, 4));
    }

    private void lives() {
        says("LIVES: by how many LIVES (0 .. 99); the least (NOT).");
        house(1, 50, 99);
        fitsFromEndToEnd(2, 5, 99);
        due("he is as he was", 50, x.of(0, 5));
    }

    /** How many fit and the least, if each bids just that number of his and the other the most. */
    private void fitsFromEndToEnd(int what, int number, int most) {
        bytes(0, 0);
        bytes(1, 1);
        fit("all but the most", what, most, 0);
        bytes(1, 8);
        fit("the most alone", what, 1, most);
        bytes(1, 0);
        fit("none", what, 0, NOT);
        x.mend(1, number, most - 1);
        fit("the most alone", what, 1, most);
        x.mend(1, number, 0);
        fit("all but 0", what, most, 1);
        bytes(1, NOT);
        fit("0 alone", what, 1, 0);
        bytes(1, 10);
        fit("all", what, most + 1, 0);
        x.row(1, 0, 0);
        fit("all by an empty BOOK", what, most + 1, 0);
    }

    private void fit(String told, int what, int many, int least) {
        due(told + ", how many", many, x.fits(1, 0, what));
        due(told + ", the least", least, x.fits(1, 0, what + 1));
    }

    private void fitsOfTheLast() {
        says("CONSTANTS: by how many CONSTANTS (0 .. 9) of one all is so; the least (NOT).");
        x = new MissedSale();
        for (int i = 0; i < 8; i++) {
            x.thing(3);
        }
        for (int b = 0; b < 7; b++) {
            x.bidder(1, 40);
        }
        for (int i = 0; i < 6; i++) {
            x.mend(i, 1, 6);
        }
        bytes(0, 7, 6);
        bytes(1, 6, 6);
        // he bids 9 times CONSTANT less 6, then less 7; the others 9
        Check.law(x, "c*9-n");
        due("CONSTANTS of 2 to 9", 8, x.fits(1, 6, 0));
        due("the least", 2, x.fits(1, 6, 1));
        Check.law(x, "l-n+c");
        // he bids LIFE less 5, then less 6; the others 41
        due("LIVES of 48 to 99", 52, x.fits(1, 6, 2));
        due("the least", 48, x.fits(1, 6, 3));
        due("by none of another's", 0, x.fits(1, 5, 0));
    }

    private void fitsRefused() {
        says("CONSTANTS: how many (what 0), the least (1; NOT), LIVES: how many (2), the least (3;"
                + " NOT) of a BIDDER. BAD, -11, -12.");
        house(1, 1, 2, 3);
        bytes(0, 0);
        bytes(1, 2);
        outside("fits(1, 0, _)", 0, 3, BAD, v -> x.fits(1, 0, v));
        outside("fits(1, _, 0)", 0, 2, BAD, v -> x.fits(1, v, 0));
        outside("BAD first, fits(55, 0, _)", 0, 3, BAD, v -> x.fits(55, 0, v));
        outside("BAD first, fits(55, _, 0)", 0, 2, BAD, v -> x.fits(55, v, 0));
        due("the last BIDDER, LIVES 3 to 99", 97, x.fits(1, 2, 2));
        due("the last BIDDER, the least", 3, x.fits(1, 2, 3));
        due("the last BIDDER, by any CONSTANT", 10, x.fits(1, 2, 0));
        house(1);
        bytes(0, 0);
        bytes(1, 10);
        due("no BIDDERS", BAD, x.fits(1, 0, 0));
        due("no BIDDERS", NOT, x.judge(1));
    }

    private void turnsRefused() {
        says("BY TURNS (ab: 10 times the one, and the other, unlike): that (what 0), the one's first"
                + " (1). VOID: BAD.");
        house(8, 1, 2, 3, 4, 5, 6, 7);
        dueOf("byTurns(_, 0, 1, 0)", VOID, v -> x.byTurns(v, 0, 1, 0), 0, 11, 22, 33, 44, 55, 66, -1,
                -10, -12, 7, 8, 9, 17, 67, 70, 71, 76, 77, 100, 106, 160, MIN, MAX);
        due("the last ones", 1, x.byTurns(65, 0, 1, 0));
        due("the last ones, 6 and 1 to 7", 0, x.byTurns(56, 0, 1, 0));
        due("the first and the last", -1, x.byTurns(6, 7, 1, 0));
        outside("byTurns(10, _, 1, 0)", 0, 7, VOID, v -> x.byTurns(10, v, 1, 0));
        outside("byTurns(10, 0, _, 0)", 1, 5, VOID, v -> x.byTurns(10, 0, v, 0));
        outside("byTurns(10, 0, 1, _)", 0, 1, VOID, v -> x.byTurns(10, 0, 1, v));
        dueOf("byTurns(65, 7, _, 0)", 1, v -> x.byTurns(65, 7, v, 0), 1, 3, 5);
        house(1, 1);
        dueOf("one BIDDER, byTurns(_, 0, 1, 0)", VOID, v -> x.byTurns(v, 0, 1, 0), 0, 1, 10);
        house(0, 1, 2);
        due("no THING", VOID, x.byTurns(1, 0, 1, 0));
    }

    private void turns(String what, int n, int outcome, int first) {
        due(what + ", n " + n, outcome, x.byTurns(1, 0, n, 0));
        due(what + ", n " + n + ", his first", first, x.byTurns(1, 0, n, 1));
    }

    private void turnsOfOne() {
        says("FEIGNS 1 more (9 at most), or nothing, or the other one is examined");
        house(1, 50, 49);
        turns("50 to 49", 1, 1, 2);
        x.mend(1, 5, 50);
        turns("50 to 50", 1, 1, 0);
        x.mend(1, 5, 51);
        turns("50 to 51", 1, 0, 0);
        x.mend(1, 5, 52);
        turns("50 to 52", 1, -1, 2);
        x.mend(1, 7, 9);
        turns("50 to 52 and 9", 1, 1, 1);
        x.mend(1, 8, 1);
        turns("50 to 52 and 9, examined", 1, 1, 2);
        house(1, 50, 58);
        x.mend(0, 7, 8);
        turns("50 and 8 to 58", 1, 1, 0);
        x.mend(0, 7, 9);
        x.mend(1, 5, 59);
        turns("50 and 9 to 59, 9 at most", 1, 0, 2);
        x.mend(1, 5, 60);
        turns("50 and 9 to 60, 9 at most", 1, -1, 2);
        house(1, 99, 99);
        turns("99 to 99, 99 at most", 1, 0, 2);
        house(1, 0, 0);
        turns("0 to 0", 1, 1, 0);
        x.mend(0, 8, 1);
        turns("0 to 0, examined", 1, 0, 2);
        says("0: nobody or a third one or pieces");
        house(1, 50, 52, 60);
        turns("a third one", 1, 0, 2);
        house(1, 50, 52, 52);
        turns("the other and a third one", 1, 0, 2);
        due("nothing is changed", 0, x.of(0, 7) + x.of(1, 8));
    }

    private void turnsOfMore() {
        says("two BIDDERS for a THING, n (1 .. 5) times in all, the one first");
        // whoever has the last turn wins by feigning then, so he is examined ahead of it
        house(1, 50, 50);
        turns("50 to 50", 1, 1, 0);
        turns("50 to 50", 2, 0, 1);
        turns("50 to 50", 3, 0, 2);
        turns("50 to 50", 4, 0, 2);
        turns("50 to 50", 5, 0, 2);
        x.mend(1, 8, 1);
        turns("50 to 50, the other is examined", 2, 0, 2);
        x.mend(0, 8, 1);
        x.mend(1, 8, 0);
        turns("50 to 50, he is examined", 1, 0, 2);
        turns("50 to 50, he is examined", 2, 0, 1);
        says("the one's first (0 more, 1 examined, 2 nothing; of like ones 2 first, then the least)");
        // 51 to 50: the other could only draw level, unless he is examined ahead of it
        house(1, 51, 50);
        turns("51 to 50", 1, 1, 2);
        turns("51 to 50", 2, 1, 1);
        turns("51 to 50", 3, 1, 2);
        turns("51 to 50", 4, 1, 2);
        turns("51 to 50", 5, 1, 2);
    }

    private void drawsRefused() {
        says("DRAWN (ns: 100 n, and SLIPPED): how many one wins, go to pieces (one -1). BAD, -11,"
                + " -12.");
        house(1, 5, 5, 6);
        shelvesWithoutBytes();
        due("nothing is there", NOTHING, x.drawn(0, 0, 100, 0));
        dueOf("drawn(0, _, 100, 0)", KIND, v -> x.drawn(0, v, 100, 0), 1, 2, 3, 4, 5);
        outside("drawn(0, _, 100, 0)", 0, 5, BAD, v -> x.drawn(0, v, 100, 0));
        outside("BAD first, drawn(0, 0, 100, _)", -1, 2, BAD, v -> x.drawn(0, 0, 100, v));
        dueOf("BAD first, drawn(0, 0, _, 0)", BAD, v -> x.drawn(0, 0, v, 0), 99, 113, 3100);
        dueOf("BAD first, drawn(0, 1, _, 0)", BAD, v -> x.drawn(0, 1, v, 0), 99, 113, 3100);
        bytes(5, 0);
        outside("drawn(0, 5, 100, _)", -1, 2, BAD, v -> x.drawn(0, 5, 100, v));
        says("DRAWN: n sales (1 .. 30) of a CATALOGUE from now by a SEED");
        dueOf("drawn(0, 5, _, 2)", BAD, v -> x.drawn(0, 5, v, 2), 0, 1, 12, 99, -1, -100, -101, 3100,
                3101, 3112, 10000, MIN, MAX);
        due("one sale", 1, x.drawn(0, 5, 100, 2));
        due("thirty sales", 30, x.drawn(0, 5, 3000, 2));
        says("SLIPPED (0 .. 12, told)");
        dueOf("drawn(0, 5, _, 2)", BAD, v -> x.drawn(0, 5, v, 2), 113, 150, 199, 213, 3013, 3099);
        due("one sale, true bids", 1, x.drawn(0, 5, 112, 2));
        due("thirty sales, true bids", 30, x.drawn(0, 5, 3012, 2));
        due("seldom pieces", 0, x.drawn(0, 5, 3012, -1));
        due("the last SHELF, pieces", 0, x.drawn(MAX, 5, 3000, -1));
    }

    private void drawsOfNone() {
        says("BIDDER (z >>> 8) % how many is examined for that sale");
        house(2);
        bytes(0, 0, 1);
        due("no BIDDERS, pieces", 0, x.drawn(7, 0, 3012, -1));
        due("no BIDDERS, one", BAD, x.drawn(7, 0, 3012, 0));
        house(2, 5);
        x.row(0, 0, 0);
        due("an empty CATALOGUE", 0, x.drawn(7, 0, 3012, 0));
        bytes(0, 2, 0);
        due("it ends with what is none", 0, x.drawn(7, 0, 3012, 0));
        bytes(0, 0, 1, 0);
        due("each twice thirty times", 60, x.drawn(7, 0, 3012, 0));
        x.mend(0, 7, 1);
        due("nobody slips", 60, x.drawn(7, 0, 3000, 0));
        due("he slips each time", 0, x.drawn(7, 0, 3012, 0));
        due("from now", 0, x.of(0, 8));
        due("from now", -1, x.of(0, 1));
        house(4, 5, 4);
        x.mend(0, 1, 0);
        x.mend(1, 1, 1);
        bytes(0, 0, 1, 2, 3);
        due("what he has does not count", 2, x.drawn(7, 0, 100, 0));
        due("what he has does not count", 60, x.drawn(7, 0, 3012, 0));
        due("nor what the other has", 0, x.drawn(7, 0, 3012, 1));
        house(2, 5);
        bytes(0, 0, 1, 0);
        x.mend(0, 7, 1);
        x.mend(0, 8, 1);
        due("he is examined as it is", 0, x.drawn(7, 0, 3000, 0));
    }

    /** One THING by draws: the last of so many BIDDERS wins it each time that he does not slip. */
    private void drawsOfOne(int bidders, int seed, int n, int slipped) {
        house(1);
        for (int b = 0; b < bidders; b++) {
            x.bidder(0, 10 + 2 * b);
            x.mend(b, 7, 1);
        }
        bytes(0, 0);
        int z = seed;
        int last = 0;
        for (int i = 0; i < n; i++) {
            z = z * 1103515245 + 12345;
            boolean slips = (z >>> 16) % 12 < slipped && (z >>> 8) % bidders == bidders - 1;
            last += slips ? 0 : 1;
        }
        String call = "drawn(" + seed + ", 0, " + (100 * n + slipped) + ", _) of " + bidders;
        due(call, last, x.drawn(seed, 0, 100 * n + slipped, bidders - 1));
        if (bidders > 1) {
            due(call, n - last, x.drawn(seed, 0, 100 * n + slipped, bidders - 2));
        }
    }

    private void drawsBySlipped() {
        says("if (z >>> 16) % 12 is below SLIPPED (0 .. 12, told)");
        for (int slipped = 0; slipped <= 12; slipped++) {
            for (int bidders = 1; bidders <= 7; bidders++) {
                drawsOfOne(bidders, 1000 * slipped + bidders, 30, slipped);
            }
        }
        for (int seed = 0; seed < 60; seed++) {
            int z = seed * 1103515245 + 12345;
            int at = (z >>> 16) % 12;
            drawsOfOne(1, seed, 1, at);
            drawsOfOne(1, seed, 1, at + 1);
        }
    }

    private void drawsThatWrap() {
        says("z = z * 1103515245 + 12345 (an int; SEED at first) ahead of each THING of it");
        for (int seed : new int[] {0, 1, -1, MIN, MIN + 1, MAX, MAX - 1, 12345, -12345, 1103515245}) {
            drawsOfOne(7, seed, 30, 12);
            drawsOfOne(2, seed, 30, 6);
            drawsOfOne(2, seed, 1, 12);
        }
        // 16 at most are drawn for, so the second sale goes on with the 17th z
        int seed = 99;
        house(1, 10, 11);
        x.mend(1, 7, 1);
        x.row(0, 0, 60);
        int z = seed;
        int wins = 0;
        for (int i = 0; i < 30; i++) {
            z = z * 1103515245 + 12345;
            wins += (z >>> 16) % 12 < 9 && (z >>> 8) % 2 == 1 ? 0 : 1;
            for (int k = 1; k < 16; k++) {
                z = z * 1103515245 + 12345;
            }
        }
        due("a CATALOGUE of sixty", wins, x.drawn(seed, 0, 3009, 1));
        due("the other's", 30 - wins, x.drawn(seed, 0, 3009, 0));
    }
}
