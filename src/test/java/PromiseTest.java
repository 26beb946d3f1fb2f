/** Each promise by itself, with answers worked out by hand from the document. */
public final class PromiseTest {
    private static final int BAD = -1, NOT = -2, FULL = -3, STATE = -5, VOID = -2000000000;
    private static final int FAR = Integer.MAX_VALUE, LOW = Integer.MIN_VALUE;

    private final Check check = new Check();
    private MissedSale x;

    public static void main(String[] args) {
        PromiseTest test = new PromiseTest();
        test.things();
        test.sales();
        test.dealing();
        test.deeds();
        test.acts();
        test.shelves();
        test.check.end("PromiseTest");
    }

    private void due(String call, long want, long got) {
        check.due(call, want, got);
    }

    /** Things of kinds 0, 1, .. and bidders of constant 5, 4, .. who live 90 years. */
    private void house(int things, int bidders) {
        x = new MissedSale();
        for (int i = 0; i < things; i++) {
            x.thing(i % 4);
        }
        for (int i = 0; i < bidders; i++) {
            x.bidder(5 - i, 90);
        }
    }

    private void things() {
        newObject();
        thingsCome();
        biddersCome();
        biddersFromRow();
        biddersFromBelowZero();
        mends();
        tape();
        laws();
        faults();
        bids();
    }

    private void newObject() {
        x = new MissedSale();
        for (int what = 0; what < 6; what++) {
            due("1 count(" + what + ")", 0, x.count(what));
        }
        for (int what = 0; what < 5; what++) {
            due("1 led(" + what + ")", 0, x.led(what));
        }
        for (int shelf = 0; shelf < 6; shelf++) {
            due("1 taken(" + shelf + ", 0)", -11, x.taken(shelf, 0));
        }
        due("1 back()", STATE, x.back());
        due("1 undo()", STATE, x.undo());
        due("1 redo()", STATE, x.redo());
        due("1 trace(0)", BAD, x.trace(0));
    }

    private void thingsCome() {
        x = new MissedSale();
        due("2 thing(4)", BAD, x.thing(4));
        due("2 thing(-1)", BAD, x.thing(-1));
        for (int i = 0; i < 8; i++) {
            due("2 thing " + i, i, x.thing(3 - i % 4));
            due("2 kind " + i, 3 - i % 4, x.of(i, 0));
            due("2 owner " + i, -1, x.of(i, 1));
            due("2 lost " + i, 0, x.of(i, 2));
            due("2 missed " + i, 0, x.of(i, 3));
        }
        due("2 a ninth", FULL, x.thing(0));
        due("2 a bad ninth", BAD, x.thing(9));
        due("2 count", 8, x.count(0));
    }

    private void biddersCome() {
        x = new MissedSale();
        due("3 bidder(10, 0)", BAD, x.bidder(10, 0));
        due("3 bidder(-1, 0)", BAD, x.bidder(-1, 0));
        due("3 bidder(0, 100)", BAD, x.bidder(0, 100));
        due("3 bidder(0, -1)", BAD, x.bidder(0, -1));
        for (int i = 0; i < 7; i++) {
            due("3 bidder " + i, i, x.bidder(9 - i, 99 - i));
            int[] want = {9 - i, 99 - i, 0, 0, 0, 5, 5, 5, 5};
            for (int what = 4; what < 13; what++) {
                due("3 of(" + i + ", " + what + ")", want[what - 4], x.of(i, what));
            }
        }
        due("3 an eighth", FULL, x.bidder(0, 0));
        due("3 a bad eighth", BAD, x.bidder(0, 100));
        due("3 count", 7, x.count(1));
    }

    private void biddersFromRow() {
        x = new MissedSale();
        due("4 no shelf", BAD, x.bidders(6, 0, 1));
        due("4 n 0", BAD, x.bidders(0, 0, 0));
        due("4 n 8", BAD, x.bidders(0, 0, 8));
        due("4 the row is missing", 0, x.bidders(0, 0, 1));
        x.row(1, 1, 9);
        due("4 shorts", -12, x.bidders(1, 0, 1));
        x.body(0);
        x.keep(2, 0);
        due("4 a LOT", -12, x.bidders(2, 0, 1));
        Check.bytes(x, 0, 77, 9, 99, 9, 0, 0, 0, 1, 2);
        due("4 within a three", 2, x.bidders(0, 1, 7));
        due("4 constant", 9, x.of(0, 4));
        due("4 life", 99, x.of(0, 5));
        due("4 feigns", 9, x.of(0, 7));
        due("4 heirs", 0, x.of(0, 6));
        due("4 loves", 5, x.of(0, 12));
        due("4 behind the row", 0, x.bidders(0, 60, 1));
        due("4 far behind the row", 0, x.bidders(0, FAR, 1));
        Check.bytes(x, 0, 1, 1, 1, 1, 1, 10, 1, 1, 1);
        due("4 feigns not so", 1, x.bidders(0, 0, 3));
        Check.bytes(x, 0, 10, 1, 1);
        due("4 constant not so", 0, x.bidders(0, 0, 1));
        Check.bytes(x, 0, 1, 100, 1);
        due("4 life not so", 0, x.bidders(0, 0, 1));
        Check.bytes(x, 0, 1, 200, 1);
        due("4 life below 0", 0, x.bidders(0, 0, 1));
        x.row(0, 0, 60);
        due("4 n of them", 2, x.bidders(0, 0, 2));
        due("4 FULL", 2, x.bidders(0, 57 - 12, 5));
        due("4 all are there", 7, x.count(1));
        due("4 FULL at once", 0, x.bidders(0, 0, 1));
    }

    private void biddersFromBelowZero() {
        int[] below = {-1, -2, -3, -60, Integer.MIN_VALUE, Integer.MIN_VALUE + 2};
        x = new MissedSale();
        x.row(0, 0, 60);
        x.row(1, 1, 60);
        x.row(2, 0, 0);
        x.body(0);
        x.keep(3, 0);
        for (int i : below) {
            due("4 a row from " + i, 0, x.bidders(0, i, 7));
            due("4 shorts from " + i, -12, x.bidders(1, i, 7));
            due("4 an empty row from " + i, 0, x.bidders(2, i, 7));
            due("4 a LOT from " + i, -12, x.bidders(3, i, 7));
            due("4 nothing from " + i, 0, x.bidders(4, i, 7));
            due("4 n 0 from " + i, BAD, x.bidders(0, i, 0));
            due("4 n 8 from " + i, BAD, x.bidders(4, i, 8));
            due("4 no shelf from " + i, BAD, x.bidders(-1, i, 1));
        }
        due("4 none came from below 0", 0, x.count(1));
        due("4 from 0 they come", 7, x.bidders(0, 0, 7));
    }

    private void mends() {
        house(1, 1);
        int[] was = {0, -1, 0, 0, 5, 90, 0, 0, 0, 5, 5, 5, 5};
        int[] least = {0, -1, 0, 0, 0, 0, 0, 0, 0, 0, 0, 0, 0};
        int[] most = {3, 0, 1, 99, 9, 99, 9, 9, 1, 9, 9, 9, 9};
        for (int what = 0; what < 13; what++) {
            String call = "5 mend(0, " + what + ", ";
            due(call + "too low)", VOID, x.mend(0, what, least[what] - 1));
            due(call + "too high)", VOID, x.mend(0, what, most[what] + 1));
            due(call + "lowest)", was[what], x.mend(0, what, least[what]));
            due(call + "highest)", least[what], x.mend(0, what, most[what]));
            due("6 of(0, " + what + ")", most[what], x.of(0, what));
            due("5 none such", VOID, x.mend(1, what, least[what]));
            due("5 none such", VOID, x.mend(-1, what, least[what]));
            due("6 none such", VOID, x.of(1, what));
            due("6 none such", VOID, x.of(LOW, what));
        }
        due("5 what 13", VOID, x.mend(0, 13, 1));
        due("5 what -1", VOID, x.mend(0, -1, 1));
        due("6 what 13", VOID, x.of(0, 13));
        due("6 what -1", VOID, x.of(0, -1));
    }

    private void tape() {
        house(1, 1);
        due("7 feed(-1)", BAD, x.feed(-1));
        due("7 feed(256)", BAD, x.feed(256));
        for (int i = 0; i < 120; i++) {
            due("7 feed " + i, i + 1, x.feed(i == 0 ? 255 : '1'));
        }
        due("7 FULL", FULL, x.feed('1'));
        due("7 BAD ahead of FULL", BAD, x.feed(256));
        due("42 tape", 120, x.count(2));
        due("8 255 begins no text", -100, x.law());
        due("42 tape is empty", 0, x.count(2));
    }

    /** What a law gives for constant 5, life 90, heirs 3, love 7 of a bidder with one thing. */
    private int given(String text) {
        house(2, 1);
        x.mend(0, 6, 3);
        x.mend(0, 9, 7);
        x.mend(1, 1, 0);
        due("8 law() of " + text, 1, Check.law(x, text));
        return x.years(0, 0);
    }

    private void laws() {
        due("8 c", 5, given("c"));
        due("8 l", 90, given("l"));
        due("8 h", 3, given("h"));
        due("8 v", 7, given("v"));
        due("8 n", 1, given("n"));
        due("8 m", 0, given("m"));
        due("8 held within 99", 99, given("9999"));
        due("8 held within 0", 0, given("-1"));
        due("8 * ahead of +", 17, given("c+4*h"));
        due("8 left to right", 1, given("9-5-3"));
        due("8 / toward 0", 8, given("10+-5/2"));
        due("8 % toward 0", 9, given("10+-5%2"));
        due("8 / by 0", 4, given("4+c/m"));
        due("8 % by 0", 4, given("4+c%m"));
        due("8 / left to right", 6, given("90/5/3"));
        due("8 <", 1, given("c<v"));
        due("8 =", 0, given("c=v"));
        due("8 >", 0, given("c>v"));
        due("8 + ahead of <", 1, given("c<4+2"));
        due("8 &", 1, given("c&v"));
        due("8 & of 0", 0, given("c&m"));
        due("8 |", 1, given("m|v"));
        due("8 & ahead of |", 1, given("1|1&0"));
        due("8 < ahead of &", 1, given("2&1<3"));
        due("8 !", 1, given("!m"));
        due("8 ! of a number", 0, given("!c"));
        due("8 ! holds an O alone", 6, given("!m+c"));
        due("8 - holds an O alone", 20, given("-c*-4"));
        due("8 ( )", 40, given("c*(v+1)"));
        due("8 a single E keeps its number", 5, given("(c)"));
        due("8 the first line that counts", 7, given("m?9;c>1?v;h"));
        due("8 a line without a first E", 3, given("m?9;h;c"));
        due("8 none counts", 0, given("m?9;n=2?8"));
        due("8 negative counts", 4, given("-1?4;9"));
        due("8 wraps", 52, given("9999*9999*9999*9999*9999/9999*0+52"));
        // 9999 * 9999 * 43 = 4299140043, as an int 4172747
        due("8 wraps round", 47, given("9999*9999*43%100"));
        due("8 four digits", 1, given("0001"));
        due("8 six open", 5, given("((((((c))))))"));
        due("8 six signs", 5, given("------c"));
        due("8 six of all", 1, given("!(!(-(c)))"));
        due("8 opened again behind", 10, given("((((((c))))))+------c"));
        due("8 six open behind ?", 5, given("1?((((((c))))))"));
        due("8 | behind ?", 1, given("1?m|v"));
        missedByLaw();
        all8();
    }

    private void all8() {
        house(8, 1);
        Check.law(x, "n*9");
        for (int thing = 0; thing < 8; thing++) {
            due("9 n " + thing, 9 * thing, x.years(0, 0));
            x.mend(thing, 1, 0);
        }
        due("9 n 8", 72, x.years(0, 0));
        due("25 without it", 63, x.loses(0));
    }

    private void missedByLaw() {
        house(3, 2);
        x.mend(0, 1, 0);
        x.mend(0, 2, 1);
        x.mend(1, 1, 0);
        x.mend(1, 2, 1);
        x.mend(1, 3, 5);
        x.mend(2, 3, 5);
        Check.law(x, "m*10+n");
        due("9 m: LOST, MISSED above 0", 10, x.years(2, 0));
        due("9 m of another", 0, x.years(12, 0));
        x.mend(2, 1, 0);
        due("9 MISSED, not LOST: he has it", 11, x.years(0, 0));
    }

    private void faults() {
        house(1, 1);
        String[] texts = {"", "c;", "(", "c)", "c<c<c", "c=1=1", "12345", "c?c?c", "(c?c)", "(c;c)",
            "c c", "+c", "c+", "c|&c", "((((((( c", "!!!!!!!c", "-(-(-(-(", "C", "c?", ";", "cc",
            "1c", "c(", "c<>c", "((((((c))))))+(((((((", "(c", "c!", "c&c<c&c<c<c"};
        int[] faults = {0, 2, 1, 1, 3, 3, 4, 3, 2, 2,
            1, 0, 2, 2, 6, 6, 6, 0, 2, 0, 1,
            1, 1, 2, 20, 2, 1, 9};
        for (int i = 0; i < texts.length; i++) {
            due("8 fault of " + texts[i], -100 - faults[i], Check.law(x, texts[i]));
            due("8 the tape is empty then", 0, x.count(2));
        }
        due("8 no law came", 25, x.years(0, 0));
        due("8 law()", 1, Check.law(x, "7"));
        due("8 fault", -101, Check.law(x, "8)"));
        due("8 the law stays", 7, x.years(0, 0));
    }

    private void bids() {
        house(3, 2);
        due("9 c times v", 25, x.years(0, 0));
        x.mend(0, 5, 20);
        due("9 no more than l and h", 20, x.years(0, 0));
        x.mend(0, 6, 3);
        due("9 l and h together", 23, x.years(0, 0));
        x.mend(1, 1, 0);
        due("9 less 5 times n", 18, x.years(0, 0));
        x.mend(0, 7, 4);
        due("9 a bid", 22, x.years(0, 1));
        due("9 no bid", 18, x.years(0, 0));
        x.mend(0, 8, 1);
        due("9 examined, who feigns", 0, x.years(0, 1));
        x.mend(0, 7, 0);
        due("9 examined, who does not", 18, x.years(0, 1));
        x.mend(0, 4, 0);
        due("9 0 at least", 0, x.years(0, 0));
        Check.law(x, "95");
        x.mend(1, 7, 9);
        due("9 a bid of 99 at most", 99, x.years(10, 1));
        due("9 what 2", BAD, x.years(0, 2));
        due("9 what -1", BAD, x.years(0, -1));
        due("9 no thing", BAD, x.years(3, 0));
        due("9 no bidder", BAD, x.years(20, 0));
        due("9 below 0", BAD, x.years(-1, 0));
        due("9 far", BAD, x.years(FAR, 0));
        due("9 far below", BAD, x.years(LOW, 0));
    }

    private void sales() {
        wins();
        catalogue();
        bestOrder();
        feign();
        examined();
    }

    private void wins() {
        house(2, 3);
        due("10 who misses longest", 0, x.wins(0));
        x.mend(1, 9, 9);
        due("10 by love", 1, x.wins(0));
        due("10 of that kind", 0, x.wins(1));
        x.mend(0, 7, 9);
        x.mend(0, 9, 7);
        due("10 by feigning", 0, x.wins(0));
        x.mend(0, 7, 1);
        due("10 two alike go to pieces", 8, x.wins(0));
        x.mend(2, 7, 9);
        x.mend(2, 9, 9);
        due("10 nor a third lower", 8, x.wins(0));
        x.mend(2, 4, 4);
        due("10 a third higher wins", 2, x.wins(0));
        x.mend(0, 1, 1);
        due("10 not the house's", 2, x.wins(0));
        due("10 no thing", BAD, x.wins(2));
        due("10 no thing", BAD, x.wins(-1));
        house(1, 0);
        due("10 nobody is there", NOT, x.wins(0));
        x.bidder(0, 9);
        x.bidder(0, 9);
        due("10 bids of 0 win nothing", NOT, x.wins(0));
    }

    private void catalogue() {
        house(4, 2);
        due("11 nothing there", -11, x.sale(0, 0));
        due("12 nothing there", -11, x.after(0, 0, 0));
        x.row(0, 2, 4);
        due("11 ints", -12, x.sale(0, 0));
        due("12 ints", -12, x.after(0, 0, 0));
        x.body(0);
        x.keep(0, 0);
        due("11 a LOT", -12, x.sale(0, 0));
        due("12 a LOT", -12, x.after(0, 0, 1));
        // 25 to 20; 20 to 20: pieces; 20 to 20 again; then the first's is passed over
        Check.bytes(x, 0, 0, 1, 2, 0, 3, 4, 0);
        int[] want = {0, 8, 8, 9, 8, NOT, NOT};
        for (int k = 0; k < want.length; k++) {
            due("11 sale(0, " + k + ")", want[k], x.sale(0, k));
        }
        due("12 one has", 1, x.after(0, 0, 0));
        due("12 the other has", 0, x.after(0, 1, 0));
        due("12 pieces", 3, x.after(0, 0, 1));
        due("12 sold", 1, x.after(0, 0, 2));
        x.mend(3, 1, 1);
        due("11 one that is not the house's is passed over", 9, x.sale(0, 4));
        due("12 what he has already counts", 1, x.after(0, 1, 0));
        x.mend(2, 2, 1);
        due("11 one that is LOST is passed over", 9, x.sale(0, 2));
        due("11 k -1", BAD, x.sale(0, -1));
        due("11 k 16", BAD, x.sale(0, 16));
        due("11 shelf 6", BAD, x.sale(6, 0));
        due("11 BAD ahead of -11", BAD, x.sale(5, 16));
        due("12 shelf -1", BAD, x.after(-1, 0, 0));
        due("12 no bidder", BAD, x.after(0, 2, 0));
        due("12 one 1 of pieces", BAD, x.after(0, 1, 1));
        due("12 one 1 of sold", BAD, x.after(0, 1, 2));
        due("12 what 3", BAD, x.after(0, 0, 3));
        due("12 what -1", BAD, x.after(0, 0, -1));
        due("11 nothing is changed", -1, x.of(0, 1));
        due("11 nothing is changed", 0, x.of(1, 2));
        sixteen();
    }

    private void sixteen() {
        house(1, 2);
        x.mend(0, 4, 0);
        x.mend(1, 4, 0);
        x.row(0, 0, 20);
        due("11 what stays", NOT, x.sale(0, 15));
        house(2, 1);
        x.row(0, 0, 20);
        x.put(0, 16, 1);
        x.put(0, 17, 1);
        due("12 16 at most", 1, x.after(0, 0, 2));
        x.put(0, 15, 1);
        due("12 the sixteenth", 2, x.after(0, 0, 2));
        due("11 the sixteenth", 0, x.sale(0, 15));
        Check.bytes(x, 0, 255, 0);
        due("11 below 0 ends it", NOT, x.sale(0, 1));
    }

    private void bestOrder() {
        // 25 and 22 for kind 0 alone; the first wins less with each that he has
        house(0, 2);
        x.thing(1);
        x.thing(0);
        x.mend(0, 9, 9);
        x.mend(1, 10, 6);
        // thing 0 (kind 1): 25 to 24; thing 1 (kind 0): 45 to 20
        due("13 both, if thing 0 comes first", 2, x.bestOrder(0, -1));
        due("13 the first", 0, x.bestOrder(0, 0));
        due("13 the second", 1, x.bestOrder(0, 1));
        due("13 not as many", NOT, x.bestOrder(0, 2));
        due("13 the other wants it otherwise", 1, x.bestOrder(1, -1));
        due("13 thing 1 first", 1, x.bestOrder(1, 0));
        due("13 thing 0 then", 0, x.bestOrder(1, 1));
        due("13 no bidder", BAD, x.bestOrder(2, 0));
        due("13 k -2", BAD, x.bestOrder(0, -2));
        x.mend(0, 1, 1);
        due("13 what he has counts", 1, x.bestOrder(1, -1));
        due("13 the only one", 1, x.bestOrder(1, 0));
        x.mend(1, 1, 1);
        due("13 none to put up", 2, x.bestOrder(1, -1));
        due("13 none to put up", NOT, x.bestOrder(1, 0));
        house(6, 2);
        due("13 six of the house", STATE, x.bestOrder(0, -1));
        due("13 six of the house", STATE, x.bestOrder(0, 0));
        due("13 BAD ahead of STATE", BAD, x.bestOrder(2, 0));
        x.mend(0, 2, 1);
        for (int k = 0; k < 5; k++) {
            due("13 five are alike", k + 1, x.bestOrder(1, k));
        }
    }

    private void feign() {
        house(2, 3);
        due("14 who wins feigns nothing", 0, x.feign(0));
        due("14 20 and 6 to 25", 6, x.feign(10));
        due("14 15 and 9 to 25", NOT, x.feign(20));
        x.mend(0, 7, 9);
        due("14 all else as now", NOT, x.feign(10));
        due("14 less than now", 0, x.feign(0));
        x.mend(0, 8, 1);
        due("14 an examined one bids 0", 0, x.feign(10));
        due("14 examined himself", 0, x.feign(0));
        x.mend(1, 8, 1);
        x.mend(1, 7, 5);
        due("14 examined, he must feign nothing", 0, x.feign(10));
        x.mend(0, 7, 0);
        due("14 examined, feigning does not help", NOT, x.feign(10));
        due("14 no thing", BAD, x.feign(2));
        due("14 no bidder", BAD, x.feign(30));
        due("14 below 0", BAD, x.feign(-10));
    }

    private void examined() {
        house(1, 4);
        due("15 who wins needs none", 0, x.examined(0, 0));
        due("15 who wins needs none", 0, x.examined(0, 1));
        due("15 true bids stay", NOT, x.examined(10, 0));
        due("15 true bids stay", NOT, x.examined(10, 1));
        x.mend(0, 7, 1);
        due("15 one", 1, x.examined(10, 0));
        due("15 the first", 1, x.examined(10, 1));
        x.mend(1, 7, 1);
        due("15 two", 2, x.examined(20, 0));
        due("15 both", 3, x.examined(20, 1));
        x.mend(0, 8, 1);
        due("15 besides those that are", 1, x.examined(20, 0));
        due("15 besides those that are", 2, x.examined(20, 1));
        due("15 what 2", BAD, x.examined(0, 2));
        due("15 what -1", BAD, x.examined(0, -1));
        due("15 no thing", BAD, x.examined(1, 0));
        due("15 no bidder", BAD, x.examined(40, 0));
        due("15 below 0", BAD, x.examined(-1, 0));
        due("15 nothing is changed", 0, x.of(1, 8));
    }

    private void dealing() {
        dealt();
        hands();
        yearsGoneThrough();
        judged();
        fits();
        byTurns();
        drawn();
    }

    private void dealt() {
        house(2, 2);
        x.mend(0, 9, 9);
        x.mend(0, 10, 8);
        x.mend(1, 9, 9);
        x.mend(1, 10, 0);
        // 45 or 40; 36 or 0
        due("16 together", 76, x.dealt(-1));
        due("16 the first lets it go", 1, x.dealt(0));
        due("16 the second has it", 0, x.dealt(1));
        x.mend(1, 2, 1);
        due("16 LOST ones are not dealt", 45, x.dealt(-1));
        due("16 the first", 0, x.dealt(0));
        due("16 none", 8, x.dealt(1));
        x.mend(1, 2, 0);
        x.mend(1, 1, 0);
        due("16 with what he has now", 40, x.dealt(-1));
        due("16 of like ones the first by bidders", 0, x.dealt(0));
        due("16 none", 8, x.dealt(1));
        due("16 no bidder", BAD, x.dealt(2));
        due("16 below -1", BAD, x.dealt(-2));
        house(1, 2);
        x.mend(0, 4, 0);
        x.mend(1, 4, 0);
        due("16 0 years", 0, x.dealt(-1));
        due("16 none comes last", 0, x.dealt(0));
        due("16 it is dealt", 8, x.dealt(1));
        house(0, 0);
        due("16 nothing, nobody", 0, x.dealt(-1));
    }

    private void hands() {
        house(4, 3);
        x.mend(0, 1, 0);
        x.mend(1, 1, 1);
        due("17 alike: none changes", 0, x.hands());
        x.mend(0, 10, 6);
        due("17 one would", 0, x.hands());
        x.mend(1, 9, 6);
        due("17 both would", 1, x.hands());
        x.mend(2, 1, 1);
        x.mend(0, 11, 7);
        due("17 two pairs", 2, x.hands());
        x.mend(2, 2, 1);
        due("17 a LOST one does not count", 1, x.hands());
        x.mend(1, 1, 0);
        due("17 unlike owners", 0, x.hands());
        x.mend(1, 1, -1);
        due("17 owners who are bidders", 0, x.hands());
        house(2, 2);
        // as if he had one less: with n 0 both are held to 99, with n 1 both would be 0
        Check.law(x, "n?0;v");
        x.mend(0, 1, 0);
        x.mend(1, 1, 1);
        x.mend(0, 10, 6);
        x.mend(1, 9, 6);
        due("17 as if he had one less", 1, x.hands());
    }

    private void yearsGoneThrough() {
        house(3, 2);
        due("19 quiet", 0, x.missed(0));
        due("19 longest", NOT, x.missed(1));
        x.mend(0, 3, 4);
        x.mend(2, 3, 4);
        x.mend(1, 3, 3);
        due("18 now", 7, x.later(0, 0, 0));
        due("18 behind 3", 5, x.later(3, 0, 0));
        due("18 behind 4", 0, x.later(4, 0, 0));
        due("19 quiet", 4, x.missed(0));
        due("19 longest, of like ones the least", 0, x.missed(1));
        x.mend(1, 3, 60);
        due("19 quiet behind 60", 60, x.missed(0));
        due("19 longest", 1, x.missed(1));
        x.mend(1, 3, 61);
        due("19 not within 60", NOT, x.missed(0));
        x.mend(0, 5, 3);
        x.mend(0, 6, 2);
        int[] lives = {3, 2, 1, 0, 0, 0};
        int[] heirs = {2, 2, 2, 1, 0, 0};
        for (int n = 0; n < 6; n++) {
            due("18 life behind " + n, lives[n], x.later(n, 0, 1));
            due("18 heirs behind " + n, heirs[n], x.later(n, 0, 2));
        }
        due("18 behind 60", 30, x.later(60, 1, 1));
        due("18 n 61", BAD, x.later(61, 0, 0));
        due("18 n -1", BAD, x.later(-1, 0, 0));
        due("18 one 1 of things", BAD, x.later(0, 1, 0));
        due("18 no bidder", BAD, x.later(0, 2, 1));
        due("18 no bidder", BAD, x.later(0, -1, 2));
        due("18 what 3", BAD, x.later(0, 0, 3));
        due("18 what -1", BAD, x.later(0, 0, -1));
        due("19 what 2", BAD, x.missed(2));
        due("19 what -1", BAD, x.missed(-1));
        due("18 nothing is changed", 3, x.of(0, 5));
    }

    private void judged() {
        house(3, 2);
        Check.bytes(x, 0, 0, 1, 0, 2);
        due("20 no book", -11, x.judge(1));
        due("20 no catalogue", -11, x.judge(10));
        x.row(1, 4, 2);
        due("20 booleans for a book", -12, x.judge(1));
        due("20 booleans for a catalogue", -12, x.judge(10));
        due("20 the catalogue first", -12, x.judge(12));
        due("20 the catalogue first", -11, x.judge(21));
        // 25 to 20, then 20 to 20
        Check.bytes(x, 1, 0, 8, 9, 8);
        due("20 all is so", NOT, x.judge(1));
        x.put(1, 1, 0);
        due("20 the first that is not", 1, x.judge(1));
        x.put(1, 1, 10);
        due("20 not known", NOT, x.judge(1));
        x.put(1, 3, 7);
        due("20 the last", 3, x.judge(1));
        Check.bytes(x, 1, 0, 8);
        due("20 a shorter book", NOT, x.judge(1));
        Check.bytes(x, 1, 0, 8, 9, 8, 10);
        due("20 more than the catalogue", 4, x.judge(1));
        x.row(1, 0, 0);
        due("20 an empty book", NOT, x.judge(1));
        x.mend(0, 4, 0);
        x.mend(1, 4, 0);
        Check.bytes(x, 1, 10);
        due("20 what stays is as 10", NOT, x.judge(1));
        x.put(1, 0, 9);
        due("20 what stays is not passed over", 0, x.judge(1));
        for (int who = -4; who < 12; who++) {
            x.put(1, 0, who);
            due("20 what stays is NOT, or 10, not " + who, who == NOT || who == 10 ? NOT : 0,
                    x.judge(1));
        }
        x.put(1, 0, 4294967294L);
        due("20 NOT by its low byte", NOT, x.judge(1));
        Check.bytes(x, 1, NOT, NOT, NOT, NOT);
        due("20 all stay, THING 0 a second time too", NOT, x.judge(1));
        Check.bytes(x, 1, NOT, 10, NOT, NOT, NOT);
        due("20 NOT behind the catalogue is more than it", 4, x.judge(1));
        x.mend(1, 4, 4);
        Check.bytes(x, 1, 1, NOT);
        due("20 what is sold is not NOT", 1, x.judge(1));
        x.mend(0, 1, 1);
        Check.bytes(x, 1, NOT);
        due("20 what is passed over is not NOT", 0, x.judge(1));
        due("20 no shelf", BAD, x.judge(6));
        due("20 no shelf", BAD, x.judge(60));
        due("20 below 0", BAD, x.judge(-1));
    }

    private void fits() {
        house(1, 2);
        Check.bytes(x, 0, 0);
        due("21 no book", -11, x.fits(1, 0, 0));
        x.row(1, 1, 1);
        due("21 shorts", -12, x.fits(1, 0, 0));
        Check.bytes(x, 1, 1);
        // the second bids 20, so the first of constants 0 .. 3 loses to him
        due("21 constants", 4, x.fits(1, 0, 0));
        due("21 the least", 0, x.fits(1, 0, 1));
        // the first bids 25, or as long as he lives
        due("21 lives", 20, x.fits(1, 0, 2));
        due("21 the least", 0, x.fits(1, 0, 3));
        due("21 constants of the other", 4, x.fits(1, 1, 0));
        due("21 the least of the other", 6, x.fits(1, 1, 1));
        due("21 lives of the other", 0, x.fits(1, 1, 2));
        due("21 none of the other", NOT, x.fits(1, 1, 3));
        x.put(1, 0, 8);
        due("21 pieces by one constant", 1, x.fits(1, 0, 0));
        due("21 that one", 4, x.fits(1, 0, 1));
        due("21 pieces by one life", 1, x.fits(1, 0, 2));
        due("21 that one", 20, x.fits(1, 0, 3));
        x.put(1, 0, 10);
        due("21 all constants", 10, x.fits(1, 0, 0));
        due("21 all lives", 100, x.fits(1, 0, 2));
        x.put(1, 0, 9);
        due("21 no constant", 0, x.fits(1, 0, 0));
        due("21 no constant", NOT, x.fits(1, 0, 1));
        fitsWhatStays();
        due("21 no bidder", BAD, x.fits(1, 2, 0));
        due("21 no shelf", BAD, x.fits(66, 0, 0));
        due("21 what 4", BAD, x.fits(1, 0, 4));
        due("21 what -1", BAD, x.fits(1, 0, -1));
        due("21 BAD ahead of -11", BAD, x.fits(55, 2, 0));
        due("21 nothing is changed", 5, x.of(0, 4));
        due("21 nothing is changed", 90, x.of(0, 5));
    }

    /** The second bids 0 here, so the THING stays if the first does, too. */
    private void fitsWhatStays() {
        x.mend(1, 4, 0);
        x.put(1, 0, NOT);
        due("21 it stays by one constant", 1, x.fits(1, 0, 0));
        due("21 that one", 0, x.fits(1, 0, 1));
        due("21 it stays by one life", 1, x.fits(1, 0, 2));
        due("21 that one", 0, x.fits(1, 0, 3));
        due("21 it never stays by the other's", 0, x.fits(1, 1, 0));
        due("21 nor is there a least", NOT, x.fits(1, 1, 3));
        x.mend(1, 4, 4);
    }

    private void byTurns() {
        house(1, 3);
        due("22 25 to 20: he wins as it is", 1, x.byTurns(1, 0, 1, 0));
        due("22 nothing first", 2, x.byTurns(1, 0, 1, 1));
        due("22 20 to 25: the other wins", -1, x.byTurns(10, 0, 1, 0));
        x.mend(1, 7, 5);
        due("22 25 to 25: one more wins", 1, x.byTurns(10, 0, 1, 0));
        due("22 one more, ahead of examining", 0, x.byTurns(10, 0, 1, 1));
        due("22 the other examines him then", -1, x.byTurns(10, 0, 2, 0));
        x.mend(0, 7, 1);
        x.mend(1, 7, 0);
        // 20 to 26: only if the other is examined, who then bids 0
        due("22 by examining", 1, x.byTurns(10, 0, 1, 0));
        due("22 examined first", 1, x.byTurns(10, 0, 1, 1));
        x.mend(2, 7, 9);
        // a third one bids 24
        due("22 a third one wins", 0, x.byTurns(10, 0, 1, 0));
        due("22 9 at most", 0, x.byTurns(20, 0, 5, 0));
        due("22 n 0", VOID, x.byTurns(1, 0, 0, 0));
        due("22 n 6", VOID, x.byTurns(1, 0, 6, 0));
        due("22 alike", VOID, x.byTurns(11, 0, 1, 0));
        due("22 no one", VOID, x.byTurns(30, 0, 1, 0));
        due("22 no other", VOID, x.byTurns(3, 0, 1, 0));
        due("22 no thing", VOID, x.byTurns(1, 1, 1, 0));
        due("22 what 2", VOID, x.byTurns(1, 0, 1, 2));
        due("22 what -1", VOID, x.byTurns(1, 0, 1, -1));
        due("22 below 0", VOID, x.byTurns(-1, 0, 1, 0));
        due("22 nothing is changed", 9, x.of(2, 7));
        due("22 nothing is changed", 0, x.of(0, 8));
    }

    private void drawn() {
        house(2, 2);
        due("23 nothing there", -11, x.drawn(1, 0, 100, 0));
        x.row(0, 3, 2);
        due("23 longs", -12, x.drawn(1, 0, 100, 0));
        Check.bytes(x, 0, 0, 1);
        due("23 as a sale: 25 to 20", 30, x.drawn(1, 0, 3000, 0));
        due("23 as a sale: 20 to 20", 30, x.drawn(1, 0, 3000, -1));
        due("23 none for the other", 0, x.drawn(1, 0, 3000, 1));
        x.mend(1, 7, 9);
        // 29 to 25, then 24 to 25; seed 0: z is 12345 first, whose bidder is 0, then -740551042,
        // whose bidder is 1
        due("23 nobody slips", 1, x.drawn(0, 0, 100, 1));
        due("23 the first slips, then the other: too late", 1, x.drawn(0, 0, 112, 1));
        due("23 the other has it either way", 1, x.drawn(0, 0, 112, 0));
        int seed = 0;
        int other = 0;
        int pieces = 0;
        for (int i = 0; i < 30; i++) {
            boolean slips = false;
            int had = 0;
            for (int k = 0; k < 2; k++) {
                seed = seed * 1103515245 + 12345;
                if ((seed >>> 16) % 12 < 7 && (seed >>> 8) % 2 == 1) {
                    slips = true;
                }
                // who feigns and is examined bids 0 to the end of that sale
                int bid = slips ? 0 : 29 - 5 * had;
                int first = 25 - 5 * (k - had);
                had += bid > first ? 1 : 0;
                pieces += bid == first ? 1 : 0;
            }
            other += had;
        }
        due("23 thirty sales", other, x.drawn(0, 0, 3007, 1));
        due("23 their pieces", pieces, x.drawn(0, 0, 3007, -1));
        due("23 shelf", BAD, x.drawn(0, 6, 100, 0));
        due("23 n 0", BAD, x.drawn(0, 0, 12, 0));
        due("23 n 31", BAD, x.drawn(0, 0, 3100, 0));
        due("23 SLIPPED 13", BAD, x.drawn(0, 0, 113, 0));
        due("23 below 0", BAD, x.drawn(0, 0, -100, 0));
        due("23 no bidder", BAD, x.drawn(0, 0, 100, 2));
        due("23 one -2", BAD, x.drawn(0, 0, 100, -2));
        due("23 nothing is changed", 0, x.of(0, 8));
    }

    private void deeds() {
        putUp();
        loses();
        slips();
        passes();
        images();
        undone();
    }

    private void putUp() {
        house(4, 2);
        due("24 the first wins", 0, x.putUp(0));
        due("24 it is his", 0, x.of(0, 1));
        due("28 sold", 1, x.led(0));
        due("24 not the house's", STATE, x.putUp(0));
        x.mend(1, 3, 9);
        due("24 pieces", 8, x.putUp(1));
        due("24 it is LOST", 1, x.of(1, 2));
        due("24 MISSED 0", 0, x.of(1, 3));
        due("24 the house's still", -1, x.of(1, 1));
        due("28 pieces", 1, x.led(1));
        due("24 LOST", STATE, x.putUp(1));
        x.mend(0, 4, 0);
        x.mend(1, 4, 0);
        due("24 it stays", NOT, x.putUp(2));
        due("24 it stays", -1, x.of(2, 1));
        due("28 not sold", 1, x.led(0));
        due("24 no thing", BAD, x.putUp(4));
        due("24 no thing", BAD, x.putUp(-1));
        due("31 deeds are no changes: mends alone", 2, x.undo());
    }

    private void loses() {
        house(3, 1);
        due("25 the house's", STATE, x.loses(0));
        x.mend(0, 1, 0);
        x.mend(1, 1, 0);
        due("25 without it: 25 less 5", 20, x.loses(0));
        due("25 LOST", 1, x.of(0, 2));
        due("25 MISSED", 20, x.of(0, 3));
        due("25 its owner stays", 0, x.of(0, 1));
        due("25 LOST already", STATE, x.loses(0));
        due("28 lost", 1, x.led(2));
        Check.law(x, "99");
        x.mend(0, 5, 10);
        x.mend(0, 6, 4);
        due("25 no more than LIFE and HEIRS", 14, x.loses(1));
        Check.law(x, "m");
        x.mend(2, 1, 0);
        x.mend(2, 3, 50);
        due("25 m is without it, too", 2, x.loses(2));
        due("25 no thing", BAD, x.loses(3));
        due("25 no thing", BAD, x.loses(-1));
        due("28 lost", 3, x.led(2));
    }

    private void slips() {
        house(1, 2);
        due("26 examined", 0, x.slip(1, 1));
        due("26 again", 1, x.slip(1, 1));
        due("26 SLIPS", 1, x.of(1, 8));
        due("26 no more", 1, x.slip(1, 0));
        due("26 SLIPS", 0, x.of(1, 8));
        due("28 as they are told to be", 2, x.led(3));
        x.mend(0, 8, 1);
        due("28 not by mend()", 2, x.led(3));
        due("26 how 2", BAD, x.slip(0, 2));
        due("26 how -1", BAD, x.slip(0, -1));
        due("26 no bidder", BAD, x.slip(2, 1));
        due("26 no bidder", BAD, x.slip(-1, 1));
    }

    private void passes() {
        house(3, 2);
        x.mend(0, 3, 2);
        x.mend(1, 3, 1);
        x.mend(0, 5, 1);
        x.mend(0, 6, 1);
        x.mend(1, 5, 0);
        due("27 one is missed still", 1, x.year());
        due("27 MISSED", 1, x.of(0, 3));
        due("27 MISSED", 0, x.of(1, 3));
        due("27 LIFE", 0, x.of(0, 5));
        due("27 HEIRS in the year when LIFE ends", 0, x.of(0, 6));
        due("27 LIFE 0 at least", 0, x.of(1, 5));
        due("27 none", 0, x.year());
        due("27 HEIRS 0 at least", 0, x.of(0, 6));
        due("28 years", 2, x.led(4));
        due("28 what 5", BAD, x.led(5));
        due("28 what -1", BAD, x.led(-1));
    }

    private void images() {
        house(3, 2);
        due("30 none", STATE, x.back());
        x.putUp(0);
        x.slip(1, 1);
        x.year();
        due("29 years", 1, x.image());
        x.thing(3);
        x.bidder(9, 9);
        x.loses(0);
        x.putUp(1);
        x.slip(1, 0);
        x.mend(3, 3, 50);
        x.mend(2, 6, 9);
        x.mend(0, 6, 9);
        x.mend(0, 4, 9);
        x.mend(0, 0, 2);
        x.mend(0, 7, 3);
        x.mend(0, 9, 1);
        x.year();
        x.year();
        due("30 years", 1, x.back());
        int[] want = {2, 0, 0, 0, 9, 89, 0, 3, 0, 1};
        for (int what = 0; what < want.length; what++) {
            due("30 of(0, " + what + ")", want[what], x.of(0, what));
        }
        due("30 SLIPS", 1, x.of(1, 8));
        due("30 the other thing", -1, x.of(1, 1));
        due("30 a thing that came since", 48, x.of(3, 3));
        due("30 a bidder that came since", 7, x.of(2, 5));
        due("30 his heirs", 9, x.of(2, 6));
        int[] led = {1, 0, 0, 1, 1};
        for (int what = 0; what < 5; what++) {
            due("30 led(" + what + ")", led[what], x.led(what));
        }
        x.year();
        due("30 once more", 1, x.back());
        due("31 changes are kept", 6, x.undo());
        due("29 anew", 1, x.image());
    }

    private void undone() {
        house(1, 1);
        due("31 none", STATE, x.undo());
        due("32 none", STATE, x.redo());
        x.mend(0, 5, 50);
        x.mend(0, 5, 50);
        due("42 the same number is no change", 1, x.count(3));
        x.mend(0, 4, 9);
        x.mend(0, 1, 0);
        due("31 undo", 2, x.undo());
        due("31 OWNER", -1, x.of(0, 1));
        due("31 undo", 1, x.undo());
        due("31 CONSTANT", 5, x.of(0, 4));
        x.mend(0, 5, 50);
        due("32 the same number is none that came behind", 1, x.redo());
        due("32 CONSTANT", 9, x.of(0, 4));
        x.year();
        x.thing(0);
        due("32 deeds are none that came behind", 0, x.redo());
        due("32 OWNER", 0, x.of(0, 1));
        due("32 none is left", STATE, x.redo());
        x.undo();
        x.mend(0, 2, 1);
        due("32 another came behind", STATE, x.redo());
        due("31 undo", 2, x.undo());
        x.undo();
        due("31 undo", 0, x.undo());
        due("31 what it was, whatever years did", 90, x.of(0, 5));
        house(1, 1);
        for (int i = 0; i < 45; i++) {
            x.mend(0, 3, i + 1);
        }
        due("42 40 at most", 40, x.count(3));
        for (int i = 39; i >= 0; i--) {
            due("31 undo", i, x.undo());
        }
        due("31 no more", STATE, x.undo());
        due("31 the fifth stays", 5, x.of(0, 3));
        for (int i = 39; i >= 0; i--) {
            due("32 redo", i, x.redo());
        }
        due("32 all is again", 45, x.of(0, 3));
    }

    private void acts() {
        x = new MissedSale();
        due("33 kind 8", BAD, x.body(8));
        due("33 kind -1", BAD, x.body(-1));
        for (int kind = 0; kind < 8; kind++) {
            due("33 body(" + kind + ")", kind, x.body(kind));
        }
        // the number of each is its kind; x is 10
        int[][] want = {
            {10, 20, 10, 19},
            {14, 28, 11, 28},
            {12, -24, 8, -27},
            {13, -28, 27, -34},
            {17, 34, 5, 38},
            {15, -32, 45, -47},
            {32, 64, 12, 57},
            {20, 33, 1, 38},
        };
        for (int kind = 0; kind < 8; kind++) {
            for (int act = 0; act < 4; act++) {
                due("34 act(" + kind + ", " + act + ", 10)", want[kind][act], x.act(kind, act, 10));
            }
        }
        due("34 wraps", LOW + 12, x.act(6, 1, (LOW + 12 - 24) / 4));
        traced(7, 3, 81, 2, 80, 10, 20, 1, 50, 11, 20, 1, 50, 11, 20, 1);
        traced(5, 3, 60, 2, 41, 30, 10, 1, 40, 11);
        traced(6, 0, 70, 1);
        traced(4, 2, 50, 11, 20, 1);
        due("34 no such LOT", 0, x.act(8, 0, 5));
        due("34 no trace then", 0, x.count(5));
        due("35 none", BAD, x.trace(0));
        x.act(0, 0, 0);
        due("34 no such act", 0, x.act(0, 4, 5));
        due("35 none", BAD, x.trace(0));
        due("34 below 0", 0, x.act(-1, 0, 5));
        due("34 below 0", 0, x.act(0, -1, 5));
        for (int i = 8; i < 50; i++) {
            due("33 body " + i, i, x.body(0));
        }
        due("33 FULL", FULL, x.body(0));
        due("33 BAD ahead of FULL", BAD, x.body(8));
        due("42 bodies", 50, x.count(4));
        due("34 n is its number", 59, x.act(49, 0, 10));
    }

    private void traced(int lot, int act, int... bodies) {
        x.act(lot, act, 10);
        due("42 bodies that ran", bodies.length, x.count(5));
        for (int i = 0; i < bodies.length; i++) {
            due("35 trace(" + i + ") of " + lot, bodies[i], x.trace(i));
        }
        due("35 behind it", BAD, x.trace(bodies.length));
        due("35 below 0", BAD, x.trace(-1));
    }

    private void shelves() {
        rows();
        shifts();
        takenFor();
        x = new MissedSale();
        due("42 what 6", BAD, x.count(6));
        due("42 what -1", BAD, x.count(-1));
    }

    private void rows() {
        x = new MissedSale();
        due("37 shelf 6", BAD, x.row(6, 0, 1));
        due("37 shelf -1", BAD, x.row(-1, 0, 1));
        due("37 sort 5", BAD, x.row(0, 5, 1));
        due("37 sort -1", BAD, x.row(0, -1, 1));
        due("37 n 61", BAD, x.row(0, 0, 61));
        due("37 n -1", -14, x.row(0, 0, -1));
        due("37 BAD ahead of -14", BAD, x.row(0, 5, -1));
        due("37 nothing came", -11, x.put(0, 0, 1));
        long v = 0x123456789ABCDEF0L;
        long[] want = {(byte) 0xF0, (short) 0xDEF0, (int) 0x9ABCDEF0L, v, 1};
        for (int sort = 0; sort < 5; sort++) {
            due("37 row", 1, x.row(sort, sort, 60));
            due("39 0 at first", 0, x.element(sort, 59));
            due("38 put", 1, x.put(sort, 59, v));
            due("39 its lowest bits", want[sort], x.element(sort, 59));
            due("38 put", 1, x.put(sort, 0, -1));
            due("39 its lowest bits", sort == 4 ? 1 : -1, x.element(sort, 0));
            due("38 put", 1, x.put(sort, 0, 0));
            due("39 0", 0, x.element(sort, 0));
            due("38 place 60", -13, x.put(sort, 60, 1));
            due("38 place -1", -13, x.put(sort, -1, 1));
            due("39 place 60", Long.MIN_VALUE, x.element(sort, 60));
            due("39 place -1", Long.MIN_VALUE, x.element(sort, -1));
        }
        x.put(4, 1, 256);
        due("39 whether it is not 0", 1, x.element(4, 1));
        due("37 a row anew", 1, x.row(3, 3, 60));
        due("39 0 at first", 0, x.element(3, 59));
        due("37 none", 1, x.row(3, 3, 0));
        due("38 no place", -13, x.put(3, 0, 0));
        due("38 nothing", -11, x.put(5, 0, 0));
        due("38 shelf 6", BAD, x.put(6, 0, 0));
        due("39 nothing", Long.MIN_VALUE, x.element(5, 0));
        due("39 shelf 6", Long.MIN_VALUE, x.element(6, 0));
        x.body(0);
        due("36 keep", 1, x.keep(5, 0));
        due("38 a LOT", -12, x.put(5, 0, 0));
        due("39 a LOT", Long.MIN_VALUE, x.element(5, 0));
    }

    private void shifts() {
        x = new MissedSale();
        Check.bytes(x, 0, 1, 2, 3, 4, 5);
        due("40 nothing", -11, x.shift(0, 0, 1, 0, 1));
        due("40 nothing", -11, x.shift(1, 0, 0, 0, 1));
        x.body(0);
        x.keep(2, 0);
        due("40 -11 ahead of -12", -11, x.shift(1, 0, 2, 0, 1));
        due("40 a LOT", -12, x.shift(0, 0, 2, 0, 1));
        x.row(1, 1, 5);
        due("40 unlike sorts", -12, x.shift(0, 0, 1, 0, 1));
        due("40 -12 ahead of -13", -12, x.shift(0, 9, 1, 0, 1));
        due("40 shelf 6", BAD, x.shift(6, 0, 0, 0, 1));
        due("40 other 6", BAD, x.shift(0, 0, 6, 0, 1));
        due("40 the same", 4, x.shift(0, 0, 0, 1, 4));
        long[] up = {1, 1, 2, 3, 4};
        for (int i = 0; i < 5; i++) {
            due("40 as they were before", up[i], x.element(0, i));
        }
        due("40 the same", 3, x.shift(0, 2, 0, 0, 3));
        long[] down = {2, 3, 4, 3, 4};
        for (int i = 0; i < 5; i++) {
            due("40 as they were before", down[i], x.element(0, i));
        }
        x.row(1, 0, 2);
        due("40 to another", 2, x.shift(0, 1, 1, 0, 2));
        due("40 came", 3, x.element(1, 0));
        due("40 came", 4, x.element(1, 1));
        due("40 none at the end", 0, x.shift(0, 5, 1, 2, 0));
        due("40 from behind the end", -13, x.shift(0, 6, 1, 0, 0));
        due("40 too many there", -13, x.shift(0, 0, 1, 0, 3));
        due("40 too many here", -13, x.shift(1, 0, 0, 0, 3));
        due("40 i -1", -13, x.shift(0, -1, 1, 0, 1));
        due("40 j -1", -13, x.shift(0, 0, 1, -1, 1));
        due("40 n -1", -13, x.shift(0, 1, 1, 1, -1));
        due("40 far", -13, x.shift(0, FAR, 1, FAR, FAR));
        due("40 nothing came", 3, x.element(1, 0));
    }

    private void takenFor() {
        x = new MissedSale();
        boolean[][] under = new boolean[8][8];
        int[] above = {-1, 0, 0, 2, 1, 3, 0, 4};
        for (int kind = 0; kind < 8; kind++) {
            x.body(kind);
            for (int at = kind; at >= 0; at = above[at]) {
                under[kind][at] = true;
            }
        }
        for (int kind = 0; kind < 8; kind++) {
            due("36 keep", 1, x.keep(0, kind));
            for (int k = 0; k < 8; k++) {
                due("41 " + kind + " taken for " + k, under[kind][k] ? kind : -12, x.taken(0, k));
            }
        }
        due("41 kind 8", BAD, x.taken(0, 8));
        due("41 kind -1", BAD, x.taken(0, -1));
        due("41 shelf 6", BAD, x.taken(6, 0));
        due("36 shelf 6", BAD, x.keep(6, 0));
        due("36 shelf -1", BAD, x.keep(-1, 0));
        due("36 no LOT", BAD, x.keep(0, 8));
        due("36 below -1", BAD, x.keep(0, -2));
        due("36 nothing", 1, x.keep(0, -1));
        due("41 nothing", -11, x.taken(0, 0));
        x.row(0, 0, 1);
        due("41 a ROW", -12, x.taken(0, 0));
    }
}
