import java.io.IOException;
import java.util.ArrayList;
import java.util.List;

/**
 * What is refused changes nothing, nor does what is asked in thought: of two objects that were made
 * alike one is asked, and then all that either tells, and does from there on, must be the same.
 */
public final class EdgeRefusedTest extends Edges {
    private EdgeRefusedTest(String[] args) throws IOException {
        super(args);
    }

    public static void main(String[] args) throws IOException {
        EdgeRefusedTest test = new EdgeRefusedTest(args);
        test.says("What is answered so changes nothing.");
        test.emptyHouse();
        test.fullHouse();
        test.fullTape();
        test.fortyChanges();
        test.livedIn();
        test.shelvesOfAnyKind();
        test.says("======== 2 IN THOUGHT, from now");
        test.inThought();
        test.says("All memory is the class's own.");
        test.twoObjects();
        test.check.end("EdgeRefusedTest");
    }

    interface Call {
        long on(MissedSale sale);
    }

    interface Scene {
        MissedSale made();
    }

    private Scene scene;

    private void refused(String call, long want, Call asked) {
        MissedSale one = scene.made();
        due(call, want, asked.on(one));
        unchanged(call, one);
    }

    private void refusedOf(String call, long want, Asked asked, int... values) {
        for (int v : values) {
            refused(call.replace("_", "" + v), want, sale -> {
                x = sale;
                return asked.with(v);
            });
        }
    }

    private void asked(String call, Call asked) {
        MissedSale one = scene.made();
        long answer = asked.on(one);
        unchanged(call, one);
        MissedSale two = scene.made();
        due(call + " once", answer, asked.on(two));
        due(call + " and again", answer, asked.on(two));
    }

    private void unchanged(String call, MissedSale one) {
        List<Long> got = told(one);
        List<Long> want = told(scene.made());
        check.holds(call + " changed nothing, but of " + want + " there is " + got,
                got.equals(want));
    }

    /** All that a sale tells, and what it tells when its changes, THE TAPE, the image come back. */
    private static List<Long> told(MissedSale sale) {
        List<Long> all = new ArrayList<>();
        numbers(sale, all);
        for (int i = 0; i < 24 && sale.trace(i) != BAD; i++) {
            all.add((long) sale.trace(i));
        }
        for (int shelf = 0; shelf < 6; shelf++) {
            all.add((long) sale.taken(shelf, 0));
            all.add((long) sale.put(shelf, -1, 0));
            for (int i = 0; i < 4; i++) {
                all.add(sale.element(shelf, i));
            }
        }
        all.add((long) sale.years(0, 0));
        all.add((long) sale.redo());
        all.add((long) sale.redo());
        int left = sale.count(3);
        for (int i = 0; i <= left; i++) {
            all.add((long) sale.undo());
            all.add((long) sale.of(0, 3));
        }
        all.add((long) sale.back());
        numbers(sale, all);
        all.add((long) sale.law());
        all.add((long) sale.years(0, 0));
        all.add((long) sale.thing(0));
        all.add((long) sale.bidder(1, 1));
        all.add((long) sale.body(1));
        return all;
    }

    private static void numbers(MissedSale sale, List<Long> all) {
        for (int what = 0; what < 6; what++) {
            all.add((long) sale.count(what));
        }
        for (int what = 0; what < 5; what++) {
            all.add((long) sale.led(what));
        }
        for (int what = 0; what < 13; what++) {
            int many = sale.count(what < 4 ? 0 : 1);
            for (int one = 0; one < many; one++) {
                all.add((long) sale.of(one, what));
            }
        }
    }

    private void emptyHouse() {
        scene = MissedSale::new;
        refusedOf("thing(_)", BAD, v -> x.thing(v), -1, 4);
        refusedOf("bidder(_, 0)", BAD, v -> x.bidder(v, 0), -1, 10);
        refusedOf("bidder(0, _)", BAD, v -> x.bidder(0, v), -1, 100);
        refusedOf("feed(_)", BAD, v -> x.feed(v), -1, 256);
        refusedOf("body(_)", BAD, v -> x.body(v), -1, 8);
        refusedOf("row(0, 0, _)", SIZE, v -> x.row(0, 0, v), -1, MIN);
        refusedOf("row(0, 0, _)", BAD, v -> x.row(0, 0, v), 61, MAX);
        refusedOf("keep(0, _)", BAD, v -> x.keep(0, v), -2, 0);
        refusedOf("mend(0, _, 0)", VOID, v -> x.mend(0, v, 0), 0, 4);
        refusedOf("putUp(_)", BAD, v -> x.putUp(v), -1, 0);
        refusedOf("loses(_)", BAD, v -> x.loses(v), -1, 0);
        refusedOf("slip(_, 1)", BAD, v -> x.slip(v, 1), -1, 0);
        refused("back()", STATE, sale -> sale.back());
        refused("undo()", STATE, sale -> sale.undo());
        refused("redo()", STATE, sale -> sale.redo());
        refused("put(0, 0, 1)", NOTHING, sale -> sale.put(0, 0, 1));
        refused("shift(0, 0, 1, 0, 0)", NOTHING, sale -> sale.shift(0, 0, 1, 0, 0));
    }

    private static MissedSale full() {
        MissedSale sale = new MissedSale();
        for (int i = 0; i < 8; i++) {
            sale.thing(i % 4);
        }
        for (int i = 0; i < 7; i++) {
            sale.bidder(i, 10 * i);
        }
        for (int i = 0; i < 50; i++) {
            sale.body(i % 8);
        }
        Check.bytes(sale, 0, 1, 1, 1);
        return sale;
    }

    private void fullHouse() {
        scene = EdgeRefusedTest::full;
        refusedOf("thing(_)", FULL, v -> x.thing(v), 0, 3);
        refusedOf("thing(_)", BAD, v -> x.thing(v), -1, 4);
        refusedOf("bidder(_, 9)", FULL, v -> x.bidder(v, 9), 0, 9);
        refusedOf("bidder(_, 9)", BAD, v -> x.bidder(v, 9), -1, 10);
        refusedOf("bidders(0, 0, _) into a full house", 0, v -> x.bidders(0, 0, v), 1, 7);
        refusedOf("body(_)", FULL, v -> x.body(v), 0, 7);
        refusedOf("keep(0, _)", BAD, v -> x.keep(0, v), -2, 50);
        refusedOf("bestOrder(0, _)", STATE, v -> x.bestOrder(0, v), -1, 0);
        refusedOf("mend(_, 0, 1)", VOID, v -> x.mend(v, 0, 1), -1, 8);
        refusedOf("mend(_, 4, 1)", VOID, v -> x.mend(v, 4, 1), -1, 7);
        refusedOf("mend(0, 1, _)", VOID, v -> x.mend(0, 1, v), -2, 7);
    }

    private void fullTape() {
        scene = () -> {
            MissedSale sale = new MissedSale();
            sale.thing(0);
            sale.bidder(5, 40);
            for (int i = 0; i < 120; i++) {
                sale.feed(i % 2 == 0 || i == 119 ? '1' : '+');
            }
            return sale;
        };
        refusedOf("feed(_)", FULL, v -> x.feed(v), 0, '1', '+', 255);
        refusedOf("feed(_)", BAD, v -> x.feed(v), -1, 256);
    }

    private void fortyChanges() {
        scene = () -> {
            MissedSale sale = new MissedSale();
            sale.thing(0);
            sale.bidder(5, 40);
            for (int i = 1; i <= 40; i++) {
                sale.mend(0, 3, i);
            }
            return sale;
        };
        refusedOf("mend(0, 3, _)", VOID, v -> x.mend(0, 3, v), -1, 100);
        refused("the same number", 40, sale -> sale.mend(0, 3, 40));
        refused("redo()", STATE, sale -> sale.redo());
        Scene forty = scene;
        scene = () -> {
            MissedSale sale = forty.made();
            for (int i = 0; i < 40; i++) {
                sale.undo();
            }
            return sale;
        };
        refusedOf("mend(0, 3, _)", VOID, v -> x.mend(0, 3, v), -1, 100);
        refused("the same number", 0, sale -> sale.mend(0, 3, 0));
        refused("undo()", STATE, sale -> sale.undo());
    }

    /** A house in which much has been done: a change to do again, an image, a law, a trace. */
    private static MissedSale lived() {
        MissedSale sale = new MissedSale();
        for (int kind : new int[] {0, 1, 2, 3, 0}) {
            sale.thing(kind);
        }
        sale.bidder(5, 40);
        sale.bidder(6, 50);
        sale.bidder(6, 0);
        sale.mend(4, 3, 9);
        sale.mend(1, 6, 4);
        sale.mend(0, 9, 8);
        sale.undo();
        sale.image();
        Check.law(sale, "m?c;l");
        sale.feed('7');
        sale.putUp(0);
        sale.putUp(1);
        sale.loses(1);
        sale.mend(2, 2, 1);
        sale.mend(3, 3, 5);
        sale.undo();
        sale.slip(2, 1);
        sale.mend(2, 7, 1);
        sale.undo();
        sale.year();
        sale.body(7);
        sale.act(0, 2, 5);
        Check.bytes(sale, 0, 3, 4, 3);
        sale.row(1, 1, 3);
        sale.put(1, 1, 300);
        sale.keep(3, 0);
        Check.bytes(sale, 4, 2, 10);
        sale.row(5, 3, 3);
        sale.put(5, 2, Long.MAX_VALUE);
        return sale;
    }

    private void livedIn() {
        scene = EdgeRefusedTest::lived;
        refusedOf("thing(_)", BAD, v -> x.thing(v), -1, 4);
        refusedOf("bidder(9, _)", BAD, v -> x.bidder(9, v), -1, 100);
        refusedOf("feed(_)", BAD, v -> x.feed(v), -1, 256);
        int[] most = {3, 2, 1, 99, 9, 99, 9, 9, 1, 9, 9, 9, 9};
        for (int what = 0; what < 13; what++) {
            int of = what;
            refusedOf("mend(1, " + what + ", _)", VOID, v -> x.mend(1, of, v),
                    what == 1 ? -2 : -1, most[what] + 1, MIN, MAX);
            refusedOf("mend(_, " + what + ", 1)", VOID, v -> x.mend(v, of, 1),
                    -1, what < 4 ? 5 : 3);
        }
        refusedOf("mend(0, _, 1)", VOID, v -> x.mend(0, v, 1), -1, 13);
        refusedOf("of(0, _)", VOID, v -> x.of(0, v), -1, 13);
        refusedOf("putUp(_)", BAD, v -> x.putUp(v), -1, 5);
        refusedOf("putUp(_)", STATE, v -> x.putUp(v), 0, 1, 2);
        refusedOf("loses(_)", BAD, v -> x.loses(v), -1, 5);
        refusedOf("loses(_)", STATE, v -> x.loses(v), 1, 2, 3);
        refusedOf("slip(_, 1)", BAD, v -> x.slip(v, 1), -1, 3);
        refusedOf("slip(0, _)", BAD, v -> x.slip(0, v), -1, 2);
        refusedOf("led(_)", BAD, v -> x.led(v), -1, 5);
        refusedOf("body(_)", BAD, v -> x.body(v), -1, 8);
        refusedOf("trace(_)", BAD, v -> x.trace(v), -1, 24);
        refusedOf("count(_)", BAD, v -> x.count(v), -1, 6);
        scene = () -> {
            MissedSale sale = lived();
            for (int b = 0; b < 3; b++) {
                sale.mend(b, 4, 0);
                sale.mend(b, 5, 0);
            }
            return sale;
        };
        refusedOf("it stays, putUp(_)", NOT, v -> x.putUp(v), 3, 4);
    }

    private void shelvesOfAnyKind() {
        scene = EdgeRefusedTest::lived;
        refusedOf("bidders(_, 0, 1)", BAD, v -> x.bidders(v, 0, 1), -1, 6);
        refusedOf("bidders(0, 0, _)", BAD, v -> x.bidders(0, 0, v), 0, 8);
        refusedOf("bidders(_, 0, 1)", KIND, v -> x.bidders(v, 0, 1), 1, 3, 5);
        refusedOf("none come, bidders(0, _, 1)", 0, v -> x.bidders(0, v, 1), -1, 1, 3, MIN, MAX);
        refused("none come, bidders(2, 0, 1)", 0, sale -> sale.bidders(2, 0, 1));
        refusedOf("keep(_, 0)", BAD, v -> x.keep(v, 0), -1, 6);
        refusedOf("keep(0, _)", BAD, v -> x.keep(0, v), -2, 1);
        for (int shelf = 0; shelf < 6; shelf++) {
            int of = shelf;
            refusedOf("row(" + shelf + ", 0, _)", SIZE, v -> x.row(of, 0, v), -1, MIN);
            refusedOf("row(" + shelf + ", 0, _)", BAD, v -> x.row(of, 0, v), 61, MAX);
            refusedOf("row(" + shelf + ", _, 3)", BAD, v -> x.row(of, v, 3), -1, 5);
            refusedOf("row(" + shelf + ", _, -1)", BAD, v -> x.row(of, v, -1), -1, 5);
            refusedOf("taken(" + shelf + ", _)", BAD, v -> x.taken(of, v), -1, 8);
        }
        refusedOf("row(_, 0, 3)", BAD, v -> x.row(v, 0, 3), -1, 6);
        refusedOf("put(_, 0, 9)", BAD, v -> x.put(v, 0, 9), -1, 6);
        refused("put(2, 0, 9)", NOTHING, sale -> sale.put(2, 0, 9));
        refused("put(3, 0, 9)", KIND, sale -> sale.put(3, 0, 9));
        refusedOf("put(5, _, 9)", PLACE, v -> x.put(5, v, 9), -1, 3, MIN, MAX);
        refusedOf("shift(_, 0, 0, 0, 1)", BAD, v -> x.shift(v, 0, 0, 0, 1), -1, 6);
        refusedOf("shift(0, 0, _, 0, 1)", BAD, v -> x.shift(0, 0, v, 0, 1), -1, 6);
        refused("shift(0, 0, 2, 0, 1)", NOTHING, sale -> sale.shift(0, 0, 2, 0, 1));
        refused("shift(2, 0, 0, 0, 1)", NOTHING, sale -> sale.shift(2, 0, 0, 0, 1));
        refusedOf("shift(0, 0, _, 0, 1)", KIND, v -> x.shift(0, 0, v, 0, 1), 1, 3, 5);
        refusedOf("shift(_, 0, 0, 0, 1)", KIND, v -> x.shift(v, 0, 0, 0, 1), 1, 3, 5);
        refusedOf("shift(0, _, 4, 0, 1)", PLACE, v -> x.shift(0, v, 4, 0, 1), -1, 3, MAX);
        refusedOf("shift(0, 0, 4, _, 1)", PLACE, v -> x.shift(0, 0, 4, v, 1), -1, 2, MAX);
        refusedOf("shift(0, 0, 4, 0, _)", PLACE, v -> x.shift(0, 0, 4, 0, v), -1, 3, MAX);
        refused("shift(0, 1, 0, 0, 3)", PLACE, sale -> sale.shift(0, 1, 0, 0, 3));
    }

    private void inThought() {
        scene = EdgeRefusedTest::lived;
        for (int what = 0; what < 2; what++) {
            int of = what;
            asked("years(3, " + what + ")", sale -> sale.years(3, of));
            asked("examined(3, " + what + ")", sale -> sale.examined(3, of));
            asked("missed(" + what + ")", sale -> sale.missed(of));
            asked("byTurns(10, 3, 5, " + what + ")", sale -> sale.byTurns(10, 3, 5, of));
        }
        asked("wins(3)", sale -> sale.wins(3));
        asked("wins(1)", sale -> sale.wins(1));
        asked("sale(0, 1)", sale -> sale.sale(0, 1));
        asked("feign(13)", sale -> sale.feign(13));
        asked("hands()", sale -> sale.hands());
        asked("judge(4)", sale -> sale.judge(4));
        for (int what = 0; what < 3; what++) {
            int of = what;
            asked("after(0, 0, " + what + ")", sale -> sale.after(0, 0, of));
            asked("later(60, 0, " + what + ")", sale -> sale.later(60, 0, of));
        }
        for (int what = 0; what < 4; what++) {
            int of = what;
            asked("fits(4, 1, " + what + ")", sale -> sale.fits(4, 1, of));
        }
        for (int one = -1; one < 3; one++) {
            int of = one;
            asked("bestOrder(1, " + one + ")", sale -> sale.bestOrder(1, of));
            asked("dealt(" + one + ")", sale -> sale.dealt(of));
            asked("drawn(7, 0, 3012, " + one + ")", sale -> sale.drawn(7, 0, 3012, of));
        }
        asked("of(1, 3)", sale -> sale.of(1, 3));
        asked("led(0)", sale -> sale.led(0));
        asked("trace(0)", sale -> sale.trace(0));
        asked("element(5, 2)", sale -> sale.element(5, 2));
        asked("taken(3, 0)", sale -> sale.taken(3, 0));
        asked("count(3)", sale -> sale.count(3));
    }

    /** What is done to one object, the other does not know of. */
    private void twoObjects() {
        scene = EdgeRefusedTest::lived;
        MissedSale one = lived();
        MissedSale other = full();
        for (int i = 0; i < 20; i++) {
            other.feed('9');
            other.mend(0, 3, i + 1);
        }
        other.putUp(1);
        other.loses(1);
        other.slip(1, 1);
        other.year();
        other.image();
        other.act(7, 3, 9);
        for (int shelf = 0; shelf < 6; shelf++) {
            other.row(shelf, 2, 9);
            other.put(shelf, 1, 77);
        }
        other.undo();
        other.drawn(5, 0, 100, 0);
        other.bestOrder(0, -1);
        unchanged("what another object did", one);
        scene = MissedSale::new;
        unchanged("what other objects did", new MissedSale());
    }
}
