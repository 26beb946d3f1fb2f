import java.io.IOException;
import java.nio.file.Files;
import java.nio.file.Path;

/**
 * What the tests of the document's edges share. Each answer stands under the sentence that it tests,
 * and each sentence must stand in the document.
 */
abstract class Edges {
    static final int BAD = -1, NOT = -2, FULL = -3, STATE = -5, VOID = -2000000000;
    static final int NOTHING = -11, KIND = -12, PLACE = -13, SIZE = -14;
    static final int MAX = Integer.MAX_VALUE, MIN = Integer.MIN_VALUE;

    final Check check = new Check();
    MissedSale x;
    private final String document;
    private String sentence = "";

    Edges(String[] args) throws IOException {
        Path root = Path.of(args.length > 0 ? args[0] : ".");
        document = Files.readString(root.resolve("../shared/DOC.md"));
    }

    /** A call with one of its numbers left open. */
    interface Asked {
        long with(int v);
    }

    final void says(String words) {
        sentence = words;
        check.holds("the document says: " + words, document.contains(words));
    }

    final void due(String call, long want, long got) {
        check.due("\"" + sentence + "\" " + call, want, got);
    }

    final void dueOf(String call, long want, Asked asked, int... values) {
        for (int v : values) {
            due(call.replace("_", "" + v), want, asked.with(v));
        }
    }

    /** All that is next to a range, and far from it, is refused with the same answer. */
    final void outside(String call, int least, int most, long refusal, Asked asked) {
        dueOf(call, refusal, asked, least - 1, most + 1, MIN, MAX);
    }

    /** THINGS of KIND 0 and BIDDERS who would miss each for so many years, whatever they have. */
    final void house(int things, int... years) {
        x = new MissedSale();
        for (int i = 0; i < things; i++) {
            x.thing(0);
        }
        for (int life : years) {
            x.bidder(0, life);
        }
        Check.law(x, "l");
    }

    final void bytes(int shelf, int... values) {
        Check.bytes(x, shelf, values);
    }

    /** One SHELF with a ROW of each sort but bytes, 1 .. 4, a LOT on 5, and nothing on 0. */
    final void shelvesWithoutBytes() {
        for (int sort = 1; sort <= 4; sort++) {
            x.row(sort, sort, 3);
        }
        x.keep(5, x.body(0));
    }
}
