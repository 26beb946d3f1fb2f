import java.io.IOException;

/** The edges of promises 33 to 41: LOTS, their acts, SHELVES and ROWS. */
public final class EdgeLotTest extends Edges {
    private EdgeLotTest(String[] args) throws IOException {
        super(args);
    }

    public static void main(String[] args) throws IOException {
        EdgeLotTest test = new EdgeLotTest(args);
        test.fiftyBodies();
        test.actsThatAreNone();
        test.actsThatWrap();
        test.numbersOfLots();
        test.traces();
        test.keeps();
        test.rows();
        test.sizes();
        test.lowestBits();
        test.putRefused();
        test.elementRefused();
        test.shiftRefused();
        test.shiftPlaces();
        test.shiftsWithin();
        test.shiftsOfAllSorts();
        test.takenFor();
        test.check.end("EdgeLotTest");
    }

    private void fiftyBodies() {
        says("LOTS' ways are kept by call as BODIES 0 .. 49, of KINDS: 0 LOT; 1 SPOON under LOT; 2"
                + " GRIEF under LOT; 3 PIANO under GRIEF; 4 ORPHAN under SPOON; 5 DUKE under PIANO; 6"
                + " THIEF under LOT; 7 CLOTH under ORPHAN.");
        x = new MissedSale();
        outside("body(_)", 0, 7, BAD, v -> x.body(v));
        due("none came", 0, x.count(4));
        for (int i = 0; i < 50; i++) {
            due("body " + i, i, x.body(i % 8));
            due("so many", i + 1, x.count(4));
        }
        says("A LOT of a KIND (0 .. 7) is kept: its number. BAD, FULL.");
        dueOf("a fifty-first, body(_)", FULL, v -> x.body(v), 0, 1, 2, 3, 4, 5, 6, 7);
        outside("body(_) of fifty", 0, 7, BAD, v -> x.body(v));
        due("there are fifty", 50, x.count(4));
        for (int i = 0; i < 50; i++) {
            due("keep(0, " + i + ")", 1, x.keep(0, i));
            due("KIND of " + i, i % 8, x.taken(0, 0));
        }
        due("no fifty-first", BAD, x.keep(0, 50));
    }

    private void actsThatAreNone() {
        says("An ACT (0 .. 3) of a LOT with x. 0, and no TRACE then: no such LOT, ACT.");
        x = new MissedSale();
        dueOf("no LOT is there, act(_, 0, 7)", 0, v -> x.act(v, 0, 7), -1, 0, 1);
        x.body(0);
        x.body(0);
        for (int lot : new int[] {-1, 2, 50, MIN, MAX}) {
            due("act(1, 0, 7)", 8, x.act(1, 0, 7));
            due("act(" + lot + ", 0, 7)", 0, x.act(lot, 0, 7));
            due("no TRACE then", BAD, x.trace(0));
            due("no TRACE then", 0, x.count(5));
        }
        for (int act : new int[] {-1, 4, MIN, MAX}) {
            due("act(1, 3, 7)", 16, x.act(1, 3, 7));
            due("act(1, " + act + ", 7)", 0, x.act(1, act, 7));
            due("no TRACE then", BAD, x.trace(0));
            due("no TRACE then", 0, x.count(5));
        }
        due("act(0, 0, 0)", 0, x.act(0, 0, 0));
        due("a TRACE, though it gave 0", 1, x.trace(0));
    }

    private void actsThatWrap() {
        says("ACTS with x (an int that wraps): 0 bids, 1 misses, 2 loses, 3 tells; n its number.");
        x = new MissedSale();
        for (int kind = 0; kind < 8; kind++) {
            x.body(kind);
        }
        for (int at : new int[] {MAX, MIN, MAX - 1, MIN + 1, -1, 0, 1, 1 << 30, -1 << 30}) {
            due("LOT bids", at, x.act(0, 0, at));
            due("LOT misses", at * 2, x.act(0, 1, at));
            due("LOT loses", at, x.act(0, 2, at));
            due("LOT tells", at * 2 - 1, x.act(0, 3, at));
            due("SPOON bids", at + 4, x.act(1, 0, at));
            due("SPOON misses", (at + 4) * 2, x.act(1, 1, at));
            due("SPOON tells", (at + 4) * 2, x.act(1, 3, at));
            due("GRIEF misses", -((at + 2) * 2), x.act(2, 1, at));
            due("GRIEF tells", -((at + 2) * 2) - 3, x.act(2, 3, at));
            due("PIANO loses", (at ^ 3) * 3, x.act(3, 2, at));
            due("PIANO misses", -((at + 4) * 2), x.act(3, 1, at));
            due("PIANO tells", -((at + 4) * 2) - 6, x.act(3, 3, at));
            due("ORPHAN loses", (at ^ 4) - 9, x.act(4, 2, at));
            due("ORPHAN tells", (at + 7) * 2 - (5 - 9), x.act(4, 3, at));
            due("DUKE misses", -((at + 6) * 2), x.act(5, 1, at));
            due("DUKE tells", -((at + 6) * 2) - 12 ^ 5, x.act(5, 3, at));
            due("THIEF bids", (at + 6) * 2, x.act(6, 0, at));
            due("THIEF misses", (at + 6) * 4, x.act(6, 1, at));
            due("THIEF tells", (at + 6) * 4 - 7, x.act(6, 3, at));
            due("CLOTH bids", at + 10, x.act(7, 0, at));
            due("CLOTH loses", (at ^ 7) - 12, x.act(7, 2, at));
            due("CLOTH misses", (at + 10) * 2 + (5 - 12), x.act(7, 1, at));
            due("CLOTH tells", (at + 10) * 2 + (5 - 12) - (6 - 12) - 1, x.act(7, 3, at));
        }
        due("MAX and 1", MIN, x.act(1, 0, MAX - 3));
        due("twice 1 << 30", MIN, x.act(0, 1, 1 << 30));
        due("minus MIN", MIN, x.act(2, 1, (1 << 30) - 2));
    }

    private void numbersOfLots() {
        says("n its number");
        x = new MissedSale();
        for (int i = 0; i < 50; i++) {
            x.body(0);
        }
        dueOf("act(_, 0, 0) is its number, less", 0, v -> x.act(v, 0, 0) - v, 0, 1, 48, 49);
        dueOf("act(_, 2, 63) is 63 ^ n, less", 0, v -> x.act(v, 2, 63) - (63 ^ v), 0, 1, 48, 49);
        due("MAX and 49", MIN + 48, x.act(49, 0, MAX));
    }

    private void traced(int lot, int act, int... bodies) {
        x.act(lot, act, 1);
        due("bodies that ran", bodies.length, x.count(5));
        for (int i = 0; i < bodies.length; i++) {
            due("trace(" + i + ") of act(" + lot + ", " + act + ", 1)", bodies[i], x.trace(i));
        }
        outside("trace(_)", 0, bodies.length - 1, BAD, v -> x.trace(v));
        dueOf("trace(_)", BAD, v -> x.trace(v), 23, 24, 25);
    }

    private void traces() {
        says("THE TRACE: numbers of the bodies that ran in the latest act(), as they began; the first"
                + " 24 are kept.");
        x = new MissedSale();
        for (int kind = 0; kind < 8; kind++) {
            x.body(kind);
        }
        due("nothing ran yet", BAD, x.trace(0));
        due("nothing ran yet", 0, x.count(5));
        traced(0, 0, 1);
        traced(0, 3, 2, 10, 1, 11);
        traced(1, 1, 10, 20, 1);
        traced(2, 3, 2, 30, 10, 1, 11);
        traced(3, 2, 40, 11);
        traced(3, 3, 2, 41, 30, 10, 1, 40, 11);
        traced(4, 3, 2, 10, 20, 1, 50, 11, 20, 1);
        traced(5, 3, 60, 2, 41, 30, 10, 1, 40, 11);
        traced(6, 3, 2, 10, 70, 1, 11);
        traced(7, 3, 81, 2, 80, 10, 20, 1, 50, 11, 20, 1, 50, 11, 20, 1);
        traced(0, 2, 11);
        says("THE TRACE's i-th body. BAD.");
        outside("trace(_)", 0, 0, BAD, v -> x.trace(v));
    }

    private void keeps() {
        says("A SHELF holds nothing (body -1), or a LOT: 1. BAD.");
        x = new MissedSale();
        dueOf("no LOT is there, keep(0, _)", BAD, v -> x.keep(0, v), 0, 1);
        due("keep(0, -1)", 1, x.keep(0, -1));
        x.body(3);
        x.body(4);
        outside("keep(0, _)", -1, 1, BAD, v -> x.keep(0, v));
        outside("keep(_, 0)", 0, 5, BAD, v -> x.keep(v, 0));
        outside("keep(_, -1)", 0, 5, BAD, v -> x.keep(v, -1));
        for (int shelf = 0; shelf < 6; shelf++) {
            due("nothing is there", NOTHING, x.taken(shelf, 0));
            due("keep(" + shelf + ", 1)", 1, x.keep(shelf, 1));
            due("its KIND", 4, x.taken(shelf, 0));
        }
        due("another", 1, x.keep(2, 0));
        due("its KIND", 3, x.taken(2, 0));
        due("the others stay", 4, x.taken(1, 0));
        due("the others stay", 4, x.taken(3, 0));
        due("a ROW in its stead", 1, x.row(2, 0, 1));
        due("a ROW", KIND, x.taken(2, 0));
        due("a LOT in its stead", 1, x.keep(2, 1));
        due("no ROW more", KIND, x.put(2, 0, 1));
        due("nothing", 1, x.keep(2, -1));
        due("nothing", NOTHING, x.put(2, 0, 1));
        due("nothing again", 1, x.keep(2, -1));
    }

    private void rows() {
        says("A SHELF holds a ROW: 1. BAD (sort, n above 60); -14.");
        x = new MissedSale();
        outside("row(_, 0, 1)", 0, 5, BAD, v -> x.row(v, 0, 1));
        outside("row(0, _, 1)", 0, 4, BAD, v -> x.row(0, v, 1));
        dueOf("row(0, 0, _)", BAD, v -> x.row(0, 0, v), 61, 62, 100, MAX);
        dueOf("row(0, 0, _)", SIZE, v -> x.row(0, 0, v), -1, -2, -60, MIN, MIN + 1);
        due("nothing came", NOTHING, x.put(0, 0, 1));
        says("Answers, of several the one named first: BAD (-1)");
        outside("row(0, _, -1)", 0, 4, BAD, v -> x.row(0, v, -1));
        outside("row(_, 0, -1)", 0, 5, BAD, v -> x.row(v, 0, -1));
        says("of 0 bytes, 1 shorts, 2 ints, 3 longs, 4 booleans, of 0 .. 60 elements, 0 at first"
                + " (false)");
        for (int sort = 0; sort < 5; sort++) {
            for (int shelf = 0; shelf < 6; shelf += 5) {
                due("row of sort " + sort, 1, x.row(shelf, sort, 60));
                due("the first", 0, x.element(shelf, 0));
                due("the last", 0, x.element(shelf, 59));
                x.put(shelf, 59, 1);
                due("the last", 1, x.element(shelf, 59));
                due("a ROW anew", 1, x.row(shelf, sort, 60));
                due("0 at first", 0, x.element(shelf, 59));
            }
        }
    }

    private void sizes() {
        says("of 0 .. 60 elements");
        for (int n = 0; n <= 60; n++) {
            x = new MissedSale();
            due("row(3, 2, " + n + ")", 1, x.row(3, 2, n));
            due("behind the last of " + n, PLACE, x.put(3, n, 1));
            due("behind the last of " + n, Long.MIN_VALUE, x.element(3, n));
            if (n > 0) {
                due("the last of " + n, 1, x.put(3, n - 1, 1));
                due("the last of " + n, 1, x.element(3, n - 1));
            }
        }
        x = new MissedSale();
        x.row(0, 0, 60);
        x.put(0, 5, 1);
        x.row(0, 0, 4);
        due("a shorter ROW", PLACE, x.put(0, 4, 1));
        x.row(0, 0, 60);
        due("a longer one begins with 0", 0, x.element(0, 5));
    }

    private void kept(int sort, long told, long want) {
        due("put " + told + " into sort " + sort, 1, x.put(sort, 2, told));
        due("put " + told + " into sort " + sort, want, x.element(sort, 2));
        due("the one ahead", 0, x.element(sort, 1));
        due("the one behind", 0, x.element(sort, 3));
    }

    private void lowestBits() {
        says("what is put in keeps its lowest bits (a boolean: whether it is not 0; 1 or 0)");
        x = new MissedSale();
        for (int sort = 0; sort < 5; sort++) {
            x.row(sort, sort, 4);
        }
        long[][] bytes = {{127, 127}, {128, -128}, {-128, -128}, {-129, 127}, {255, -1}, {256, 0},
            {0x1234567890L, -112}, {Long.MAX_VALUE, -1}, {Long.MIN_VALUE, 0}};
        for (long[] one : bytes) {
            kept(0, one[0], one[1]);
        }
        long[][] shorts = {{32767, 32767}, {32768, -32768}, {-32768, -32768}, {-32769, 32767},
            {65535, -1}, {65536, 0}, {128, 128}, {Long.MAX_VALUE, -1}, {Long.MIN_VALUE, 0}};
        for (long[] one : shorts) {
            kept(1, one[0], one[1]);
        }
        long[][] ints = {{MAX, MAX}, {MAX + 1L, MIN}, {MIN, MIN}, {MIN - 1L, MAX}, {4294967295L, -1},
            {4294967296L, 0}, {32768, 32768}, {Long.MAX_VALUE, -1}, {Long.MIN_VALUE, 0}};
        for (long[] one : ints) {
            kept(2, one[0], one[1]);
        }
        for (long one : new long[] {0, 1, -1, MAX + 1L, MIN - 1L, Long.MAX_VALUE, Long.MIN_VALUE,
            Long.MIN_VALUE + 1}) {
            kept(3, one, one);
        }
        for (long one : new long[] {1, 2, -1, 256, 65536, 4294967296L, Long.MAX_VALUE,
            Long.MIN_VALUE}) {
            kept(4, one, 1);
        }
        for (int sort = 0; sort < 5; sort++) {
            kept(sort, 0, 0);
        }
    }

    private void putRefused() {
        says("Element i of a ROW becomes v: 1. BAD, -11, -12, -13.");
        x = new MissedSale();
        outside("put(_, 0, 1)", 0, 5, BAD, v -> x.put(v, 0, 1));
        outside("put(_, -1, 1)", 0, 5, BAD, v -> x.put(v, -1, 1));
        dueOf("put(0, _, 1)", NOTHING, v -> x.put(0, v, 1), -1, 0, 60, MIN, MAX);
        x.body(0);
        x.keep(0, 0);
        dueOf("a LOT, put(0, _, 1)", KIND, v -> x.put(0, v, 1), -1, 0, 60, MIN, MAX);
        for (int sort = 0; sort < 5; sort++) {
            x.row(0, sort, 3);
            outside("put(0, _, 1)", 0, 2, PLACE, v -> x.put(0, v, 1));
            dueOf("put(0, _, 1)", 1, v -> x.put(0, v, 1), 0, 2);
            dueOf("element(0, _)", 1, v -> x.element(0, v), 0, 2);
            due("element(0, 1)", 0, x.element(0, 1));
            x.row(0, sort, 0);
            dueOf("an empty ROW, put(0, _, 1)", PLACE, v -> x.put(0, v, 1), -1, 0, 1);
        }
    }

    private void elementRefused() {
        says("Element i of a ROW; Long.MIN_VALUE: BAD, -11 to -13.");
        x = new MissedSale();
        outside("element(_, 0)", 0, 5, Long.MIN_VALUE, v -> x.element(v, 0));
        dueOf("element(0, _)", Long.MIN_VALUE, v -> x.element(0, v), -1, 0, 1);
        x.body(0);
        x.keep(5, 0);
        dueOf("a LOT, element(5, _)", Long.MIN_VALUE, v -> x.element(5, v), -1, 0, 1);
        x.row(5, 3, 3);
        outside("element(5, _)", 0, 2, Long.MIN_VALUE, v -> x.element(5, v));
        dueOf("element(5, _)", 0, v -> x.element(5, v), 0, 1, 2);
        x.row(5, 3, 0);
        dueOf("an empty ROW, element(5, _)", Long.MIN_VALUE, v -> x.element(5, v), -1, 0, 1);
    }

    private void shiftRefused() {
        says("BAD, -11 (either), -12 (no ROWS, or of unlike sorts), -13.");
        x = new MissedSale();
        shelvesWithoutBytes();
        outside("shift(_, 0, 1, 0, 1)", 0, 5, BAD, v -> x.shift(v, 0, 1, 0, 1));
        outside("shift(1, 0, _, 0, 1)", 0, 5, BAD, v -> x.shift(1, 0, v, 0, 1));
        outside("BAD first, shift(_, 9, 0, 9, 9)", 0, 5, BAD, v -> x.shift(v, 9, 0, 9, 9));
        outside("BAD first, shift(0, 9, _, 9, 9)", 0, 5, BAD, v -> x.shift(0, 9, v, 9, 9));
        dueOf("shift(0, 0, _, 0, 1)", NOTHING, v -> x.shift(0, 0, v, 0, 1), 0, 1, 2, 3, 4, 5);
        dueOf("shift(_, 0, 0, 0, 1)", NOTHING, v -> x.shift(v, 0, 0, 0, 1), 0, 1, 2, 3, 4, 5);
        dueOf("-11 first, shift(0, _, 5, 9, 9)", NOTHING, v -> x.shift(0, v, 5, 9, 9), -1, 9, MAX);
        dueOf("a LOT, shift(_, 0, 5, 0, 1)", KIND, v -> x.shift(v, 0, 5, 0, 1), 1, 2, 3, 4, 5);
        dueOf("a LOT, shift(5, 0, _, 0, 1)", KIND, v -> x.shift(5, 0, v, 0, 1), 1, 2, 3, 4, 5);
        bytes(0, 1, 2, 3);
        for (int from = 0; from < 5; from++) {
            for (int to = 0; to < 5; to++) {
                due("sorts " + from + " and " + to, from == to ? 0 : KIND, x.shift(from, 0, to, 0, 0));
                due("sorts " + from + " and " + to + ", no such place", from == to ? PLACE : KIND,
                        x.shift(from, 4, to, 0, 0));
            }
        }
    }

    private void shiftPlaces() {
        says("n elements of a ROW from i on come to another one (or the same) from j on, as they all"
                + " were before: n.");
        for (int i = -1; i <= 4; i++) {
            for (int j = -1; j <= 3; j++) {
                for (int n = -1; n <= 4; n++) {
                    x = new MissedSale();
                    bytes(0, 11, 12, 13);
                    bytes(1, 21, 22);
                    boolean there = i >= 0 && j >= 0 && n >= 0 && i + n <= 3 && j + n <= 2;
                    String call = "shift(0, " + i + ", 1, " + j + ", " + n + ")";
                    due(call, there ? n : PLACE, x.shift(0, i, 1, j, n));
                    for (int k = 0; k < 2; k++) {
                        boolean came = there && k >= j && k < j + n;
                        due(call + ", element " + k, came ? 11 + i + k - j : 21 + k,
                                x.element(1, k));
                    }
                }
            }
        }
        bytes(0, 11, 12, 13);
        bytes(1, 21, 22);
        int[] far = {MIN, MIN + 1, MAX - 1, MAX};
        dueOf("shift(0, _, 1, 0, 1)", PLACE, v -> x.shift(0, v, 1, 0, 1), far);
        dueOf("shift(0, 0, 1, _, 1)", PLACE, v -> x.shift(0, 0, 1, v, 1), far);
        dueOf("shift(0, 1, 1, 1, _)", PLACE, v -> x.shift(0, 1, 1, 1, v), far);
        dueOf("shift(0, _, 1, _, _)", PLACE, v -> x.shift(0, v, 1, v, v), far);
        due("nothing came", 21, x.element(1, 0));
        x.row(2, 0, 0);
        due("none, from an empty ROW", 0, x.shift(2, 0, 1, 2, 0));
        due("none, to an empty ROW", 0, x.shift(1, 2, 2, 0, 0));
        due("one, from an empty ROW", PLACE, x.shift(2, 0, 1, 0, 1));
        due("one, to an empty ROW", PLACE, x.shift(1, 0, 2, 0, 1));
        x.row(3, 0, 60);
        x.row(4, 0, 60);
        x.put(3, 0, 1);
        x.put(3, 59, 2);
        due("all sixty", 60, x.shift(3, 0, 4, 0, 60));
        due("the first", 1, x.element(4, 0));
        due("the last", 2, x.element(4, 59));
        due("one more", PLACE, x.shift(3, 0, 4, 0, 61));
    }

    private void shiftsWithin() {
        says("(or the same) from j on, as they all were before");
        for (int i = 0; i <= 5; i++) {
            for (int j = 0; j <= 5; j++) {
                int n = 5 - Math.max(i, j);
                x = new MissedSale();
                bytes(0, 1, 2, 3, 4, 5);
                due("shift(0, " + i + ", 0, " + j + ", " + n + ")", n, x.shift(0, i, 0, j, n));
                for (int k = 0; k < 5; k++) {
                    boolean came = k >= j && k < j + n;
                    due("element " + k, came ? 1 + i + k - j : 1 + k, x.element(0, k));
                }
            }
        }
    }

    private void shiftsOfAllSorts() {
        says("(or the same) from j on, as they all were before");
        long[] highest = {127, 32767, MAX, Long.MAX_VALUE, 1};
        for (int sort = 0; sort < 5; sort++) {
            x = new MissedSale();
            x.row(0, sort, 3);
            x.row(5, sort, 3);
            x.put(0, 0, highest[sort]);
            due("within sort " + sort, 2, x.shift(0, 0, 0, 1, 2));
            long[] want = {highest[sort], highest[sort], 0};
            for (int k = 0; k < 3; k++) {
                due("element " + k, want[k], x.element(0, k));
            }
            due("to another of sort " + sort, 3, x.shift(0, 0, 5, 0, 3));
            for (int k = 0; k < 3; k++) {
                due("element " + k, want[k], x.element(5, k));
            }
            x.put(5, 0, 0);
            due("each ROW by itself", highest[sort], x.element(0, 0));
        }
    }

    private void takenFor() {
        says("What a SHELF holds, taken for a LOT of KIND k (0 .. 7), or under it: its KIND. BAD, -11,"
                + " -12.");
        x = new MissedSale();
        outside("taken(_, 0)", 0, 5, BAD, v -> x.taken(v, 0));
        outside("taken(0, _)", 0, 7, BAD, v -> x.taken(0, v));
        dueOf("nothing, taken(0, _)", NOTHING, v -> x.taken(0, v), 0, 1, 2, 3, 4, 5, 6, 7);
        shelvesWithoutBytes();
        bytes(0, 1);
        for (int shelf = 0; shelf < 5; shelf++) {
            int of = shelf;
            dueOf("a ROW, taken(" + shelf + ", _)", KIND, v -> x.taken(of, v), 0, 7);
            outside("BAD first, taken(" + shelf + ", _)", 0, 7, BAD, v -> x.taken(of, v));
        }
        String[] under = {"0", "01", "02", "023", "014", "0235", "06", "0147"};
        for (int kind = 0; kind < 8; kind++) {
            x.keep(5, x.body(kind));
            for (int k = 0; k < 8; k++) {
                due("KIND " + kind + " taken for " + k, under[kind].indexOf('0' + k) >= 0 ? kind : KIND,
                        x.taken(5, k));
            }
            outside("taken(5, _)", 0, 7, BAD, v -> x.taken(5, v));
        }
    }
}
