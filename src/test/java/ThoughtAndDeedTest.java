import java.util.ArrayList;
import java.util.List;
import java.util.Random;

/**
 * What is asked in thought is what would come of it in deed. Each answer is due from other calls of
 * the class itself, made on an object with the same story: so this knows no law, no bid and no years
 * of its own, and finds where two calls tell of two different houses.
 */
public final class ThoughtAndDeedTest {
    private static final int NOT = -2, STATE = -5, PIECES = 8, PASSED = 9, UNKNOWN = 10;
    private static final int OWNER = 1, LOST = 2, MISSED = 3;
    private static final int CONSTANT = 4, LIFE = 5, HEIRS = 6, FEIGNS = 7, SLIPS = 8;
    private static final int HOUSES = 400;
    private static final String[] LAWS = {
        "c*v-n*7-m+l/4", "v>5&n<2?c*v;l/3-m*2", "(l+h)/2%17+v*c/3-n", "!n*20+v;1", "9-n|m?v*2+c;h",
    };

    private final Random random = new Random(20261118);
    private final Check check = new Check();
    private final List<Deed> story = new ArrayList<>();
    private MissedSale asked;
    private int[] catalogue;
    private int things;
    private int bidders;
    private int house;

    private interface Deed {
        void on(MissedSale sale);
    }

    public static void main(String[] args) {
        ThoughtAndDeedTest test = new ThoughtAndDeedTest();
        for (int i = 0; i < HOUSES && test.check.wrong() < 20; i++) {
            test.house = i;
            test.tellStory();
            test.askAll();
        }
        test.check.end("ThoughtAndDeedTest");
    }

    /** Each on an object of its own: one is used for at most 512 calls. */
    private void askAll() {
        ask(this::bidsAndWinners);
        ask(this::salesOfTheCatalogue);
        for (int i = 0; i < bidders; i++) {
            int one = i;
            int thing = below(things);
            ask(() -> bestOrder(one));
            ask(() -> feign(one, thing));
            ask(() -> examined(one, thing));
            ask(() -> drawn(one));
        }
        ask(() -> drawn(-1));
        ask(this::dealt);
        ask(this::hands);
        ask(this::years);
        ask(this::losses);
        ask(this::books);
        ask(this::byTurns);
    }

    /** What is asked in thought changes nothing. */
    private void ask(Runnable questions) {
        asked = alike();
        questions.run();
        MissedSale untouched = alike();
        for (int what = 0; what < 13; what++) {
            for (int one = 0; one < (what < CONSTANT ? things : bidders); one++) {
                due("of(" + one + ", " + what + ")", untouched.of(one, what), asked.of(one, what));
            }
        }
    }

    // ---- a story, told as often as an object is wanted that is alike

    private void tellStory() {
        story.clear();
        things = 1 + below(8);
        bidders = 2 + below(house % 3 == 0 ? 6 : 3);
        boolean areAlike = below(3) == 0;
        for (int i = 0; i < things; i++) {
            int kind = below(4);
            story.add(sale -> sale.thing(kind));
        }
        for (int i = 0; i < bidders; i++) {
            int constant = areAlike ? 6 : below(10);
            int life = areAlike ? 50 : below(100);
            story.add(sale -> sale.bidder(constant, life));
        }
        if (below(3) > 0) {
            String text = LAWS[below(LAWS.length)];
            story.add(sale -> Check.law(sale, text));
        }
        mends(areAlike ? 3 : 2 * bidders);
        deeds(below(8));
        catalogue = new int[1 + below(16)];
        for (int k = 0; k < catalogue.length; k++) {
            catalogue[k] = below(things);
        }
        story.add(sale -> Check.bytes(sale, 0, catalogue));
    }

    private void mends(int many) {
        for (int i = 0; i < many; i++) {
            int one = below(bidders);
            int what = HEIRS + below(7);
            int v = what == SLIPS ? below(4) / 3 : below(10);
            story.add(sale -> sale.mend(one, what, v));
        }
        for (int i = below(house % 2 == 0 ? 5 : 12); i > 0; i--) {
            int thing = below(things);
            int owner = below(bidders);
            story.add(sale -> sale.mend(thing, OWNER, owner));
        }
    }

    private void deeds(int many) {
        for (int i = 0; i < many; i++) {
            int thing = below(things);
            int which = below(4);
            story.add(sale -> {
                switch (which) {
                    case 0: sale.putUp(thing); break;
                    case 1: case 2: sale.loses(thing); break;
                    default: sale.year();
                }
            });
        }
    }

    private MissedSale alike() {
        MissedSale sale = new MissedSale();
        for (Deed deed : story) {
            deed.on(sale);
        }
        return sale;
    }

    private int below(int n) {
        return random.nextInt(n);
    }

    private void due(String call, long want, long got) {
        check.due("house " + house + ": " + call, want, got);
    }

    // ---- sales

    private void bidsAndWinners() {
        for (int thing = 0; thing < things; thing++) {
            int most = 0;
            int who = NOT;
            for (int b = 0; b < bidders; b++) {
                int bid = asked.years(10 * b + thing, 1);
                due("years(" + b + thing + ", 1)", bidOf(b, thing), bid);
                who = bid > most ? b : bid == most && bid > 0 ? PIECES : who;
                most = Math.max(most, bid);
            }
            due("wins(" + thing + ")", who, asked.wins(thing));
            if (isOpen(asked, thing)) {
                due("wins(" + thing + ") as putUp", alike().putUp(thing), asked.wins(thing));
            }
        }
    }

    private int bidOf(int b, int thing) {
        int would = asked.years(10 * b + thing, 0);
        int feigns = asked.of(b, FEIGNS);
        if (asked.of(b, SLIPS) == 1) {
            return feigns > 0 ? 0 : would;
        }
        return Math.min(99, would + feigns);
    }

    private static boolean isOpen(MissedSale sale, int thing) {
        return sale.of(thing, OWNER) == -1 && sale.of(thing, LOST) == 0;
    }

    private int has(MissedSale sale, int one) {
        int many = 0;
        for (int thing = 0; thing < things; thing++) {
            many += sale.of(thing, OWNER) == one && sale.of(thing, LOST) == 0 ? 1 : 0;
        }
        return many;
    }

    private void salesOfTheCatalogue() {
        MissedSale deed = alike();
        int sold = deed.led(0);
        int pieces = deed.led(1);
        for (int k = 0; k < catalogue.length; k++) {
            int who = deed.putUp(catalogue[k]);
            due("sale(0, " + k + ")", who == STATE ? PASSED : who, asked.sale(0, k));
        }
        for (int b = 0; b < bidders; b++) {
            due("after(0, " + b + ", 0)", has(deed, b), asked.after(0, b, 0));
        }
        due("after(0, 0, 1)", deed.led(1) - pieces, asked.after(0, 0, 1));
        due("after(0, 0, 2)", deed.led(0) - sold, asked.after(0, 0, 2));
    }

    private void bestOrder(int one) {
        List<Integer> open = new ArrayList<>();
        for (int thing = 0; thing < things; thing++) {
            if (isOpen(asked, thing)) {
                open.add(thing);
            }
        }
        if (open.size() > 5) {
            due("bestOrder(" + one + ", -1)", STATE, asked.bestOrder(one, -1));
            return;
        }
        int[] best = new int[open.size()];
        int most = tryOrders(one, open, new int[open.size()], 0, best, -1);
        due("bestOrder(" + one + ", -1)", most, asked.bestOrder(one, -1));
        for (int k = 0; k < best.length; k++) {
            due("bestOrder(" + one + ", " + k + ")", best[k], asked.bestOrder(one, k));
        }
    }

    /** Goes through the orders as by numbers and keeps the first of the best. */
    private int tryOrders(int one, List<Integer> open, int[] order, int k, int[] best,
            int mostYet) {
        if (k == order.length) {
            int has = hasBehind(one, order);
            if (has > mostYet) {
                System.arraycopy(order, 0, best, 0, order.length);
            }
            return Math.max(has, mostYet);
        }
        int most = mostYet;
        for (int i = 0; i < open.size(); i++) {
            order[k] = open.remove(i);
            most = tryOrders(one, open, order, k + 1, best, most);
            open.add(i, order[k]);
        }
        return most;
    }

    private int hasBehind(int one, int[] order) {
        MissedSale deed = alike();
        for (int thing : order) {
            deed.putUp(thing);
        }
        return has(deed, one);
    }

    private void feign(int one, int thing) {
        MissedSale deed = alike();
        int least = NOT;
        for (int v = 9; v >= 0; v--) {
            deed.mend(one, FEIGNS, v);
            least = deed.wins(thing) == one ? v : least;
        }
        due("feign(" + one + thing + ")", least, asked.feign(10 * one + thing));
    }

    private void examined(int one, int thing) {
        int which = NOT;
        for (int bits = (1 << bidders) - 1; bits >= 0; bits--) {
            MissedSale deed = alike();
            for (int b = 0; b < bidders; b++) {
                if ((bits >> b & 1) != 0) {
                    deed.slip(b, 1);
                }
            }
            boolean isFewer = which < 0 || Integer.bitCount(bits) <= Integer.bitCount(which);
            which = deed.wins(thing) == one && isFewer ? bits : which;
        }
        String call = "examined(" + one + thing + ", ";
        due(call + "1)", which, asked.examined(10 * one + thing, 1));
        due(call + "0)", which < 0 ? NOT : Integer.bitCount(which),
                asked.examined(10 * one + thing, 0));
    }

    private void drawn(int one) {
        int seed = random.nextInt();
        int n = 1 + below(6);
        int slipped = below(13);
        MissedSale deed = alike();
        int hadAtFirst = one < 0 ? deed.led(1) : has(deed, one);
        int z = seed;
        int many = 0;
        deed.image();
        for (int i = 0; i < n; i++) {
            for (int thing : catalogue) {
                z = z * 1103515245 + 12345;
                if ((z >>> 16) % 12 < slipped) {
                    deed.slip((z >>> 8) % bidders, 1);
                }
                deed.putUp(thing);
            }
            many += (one < 0 ? deed.led(1) : has(deed, one)) - hadAtFirst;
            deed.back();
        }
        int ns = 100 * n + slipped;
        due("drawn(" + seed + ", 0, " + ns + ", " + one + ")", many, asked.drawn(seed, 0, ns, one));
    }

    // ---- dealing, years

    private void dealt() {
        if (bidders > 4) {
            return;
        }
        int[][] years = new int[bidders][things];
        for (int thing = 0; thing < things; thing++) {
            boolean isOpen = isOpen(asked, thing);
            for (int b = 0; b < bidders; b++) {
                years[b][thing] = isOpen ? asked.years(10 * b + thing, 0) : -1;
            }
        }
        int[] best = new int[bidders];
        int most = deal(years, new int[bidders], 0, 0, best, -1);
        due("dealt(-1)", most, asked.dealt(-1));
        for (int b = 0; b < bidders; b++) {
            due("dealt(" + b + ")", best[b], asked.dealt(b));
        }
    }

    /** Goes through the deals as by numbers, 8 last, and keeps the first of the best. */
    private int deal(int[][] years, int[] share, int b, int together, int[] best, int mostYet) {
        if (b == bidders) {
            if (together > mostYet) {
                System.arraycopy(share, 0, best, 0, bidders);
            }
            return Math.max(together, mostYet);
        }
        int most = mostYet;
        for (int thing = 0; thing < things; thing++) {
            boolean isFree = years[b][thing] >= 0;
            for (int c = 0; c < b; c++) {
                isFree &= share[c] != thing;
            }
            if (isFree) {
                share[b] = thing;
                most = deal(years, share, b + 1, together + years[b][thing], best, most);
            }
        }
        share[b] = 8;
        return deal(years, share, b + 1, together, best, most);
    }

    private void hands() {
        int pairs = 0;
        for (int a = 0; a < things; a++) {
            for (int b = a + 1; b < things; b++) {
                boolean isPair = asked.of(a, OWNER) >= 0 && asked.of(b, OWNER) >= 0
                        && asked.of(a, OWNER) != asked.of(b, OWNER)
                        && asked.of(a, LOST) == 0 && asked.of(b, LOST) == 0;
                pairs += isPair && wouldRather(a, b) && wouldRather(b, a) ? 1 : 0;
            }
        }
        due("hands()", pairs, asked.hands());
    }

    /** His own goes back to the house, so that he has one less; then both are weighed. */
    private boolean wouldRather(int own, int others) {
        MissedSale deed = alike();
        int owner = deed.mend(own, OWNER, -1);
        return deed.years(10 * owner + others, 0) > deed.years(10 * owner + own, 0);
    }

    private void years() {
        int longest = NOT;
        for (int thing = things - 1; thing >= 0; thing--) {
            int missed = asked.of(thing, MISSED);
            boolean isLonger = longest < 0 || missed >= asked.of(longest, MISSED);
            longest = missed > 0 && isLonger ? thing : longest;
        }
        due("missed(1)", longest, asked.missed(1));
        int quiet = NOT;
        for (int n = 60; n >= 0; n--) {
            quiet = asked.later(n, 0, 0) == 0 ? n : quiet;
        }
        due("missed(0)", quiet, asked.missed(0));
        for (int n : new int[] {0, 1, 2 + below(9), 11 + below(49), 60}) {
            yearsBehind(n);
        }
    }

    private void yearsBehind(int n) {
        MissedSale deed = alike();
        int bits = asked.later(n, 0, 0);
        int missed = Integer.bitCount(bits);
        for (int i = 0; i < n; i++) {
            missed = deed.year();
        }
        due("year() " + n, Integer.bitCount(bits), missed);
        for (int thing = 0; thing < things; thing++) {
            due("later(" + n + ", 0, 0), THING " + thing, deed.of(thing, MISSED) > 0 ? 1 : 0,
                    bits >> thing & 1);
        }
        for (int b = 0; b < bidders; b++) {
            due("later(" + n + ", " + b + ", 1)", deed.of(b, LIFE), asked.later(n, b, 1));
            due("later(" + n + ", " + b + ", 2)", deed.of(b, HEIRS), asked.later(n, b, 2));
        }
    }

    private void losses() {
        for (int thing = 0; thing < things; thing++) {
            int owner = asked.of(thing, OWNER);
            if (owner < 0 || asked.of(thing, LOST) == 1) {
                due("loses(" + thing + ")", STATE, alike().loses(thing));
                continue;
            }
            MissedSale without = alike();
            without.mend(thing, OWNER, -1);
            int would = without.years(10 * owner + thing, 0);
            int most = without.of(owner, LIFE) + without.of(owner, HEIRS);
            MissedSale deed = alike();
            due("loses(" + thing + ")", Math.min(would, most), deed.loses(thing));
            due("MISSED of " + thing, Math.min(would, most), deed.of(thing, MISSED));
            due("LOST of " + thing, 1, deed.of(thing, LOST));
            due("OWNER of " + thing, owner, deed.of(thing, OWNER));
        }
    }

    // ---- books

    private void books() {
        int[] book = new int[below(catalogue.length + 2)];
        for (int k = 0; k < book.length; k++) {
            int who = asked.sale(0, k);
            book[k] = below(3) == 0 || who == NOT ? UNKNOWN : below(12) == 0 ? below(12) : who;
        }
        story.add(sale -> Check.bytes(sale, 1, book));
        Check.bytes(asked, 1, book);
        int wrong = NOT;
        for (int k = book.length - 1; k >= 0; k--) {
            boolean isSo = book[k] == UNKNOWN || book[k] == asked.sale(0, k);
            wrong = k < catalogue.length && isSo ? wrong : k;
        }
        due("judge(1)", wrong, asked.judge(1));
        for (int one = 0; one < bidders; one++) {
            fits(one, CONSTANT, 9, 0);
            fits(one, LIFE, 99, 2);
        }
    }

    private void fits(int one, int what, int most, int first) {
        MissedSale deed = alike();
        int many = 0;
        int least = NOT;
        for (int v = most; v >= 0; v--) {
            deed.mend(one, what, v);
            if (deed.judge(1) == NOT) {
                many++;
                least = v;
            }
        }
        due("fits(1, " + one + ", " + first + ")", many, asked.fits(1, one, first));
        due("fits(1, " + one + ", " + (first + 1) + ")", least, asked.fits(1, one, first + 1));
    }

    // ---- two who feign by turns

    private void byTurns() {
        int one = below(bidders);
        int other = (one + 1 + below(bidders - 1)) % bidders;
        int thing = below(things);
        int n = 1 + below(5);
        int best = -2;
        int first = 2;
        int[] moves = new int[n];
        for (int move : new int[] {2, 0, 1}) {
            moves[0] = move;
            int comes = comes(one, other, thing, moves, 1);
            first = comes > best ? move : first;
            best = Math.max(best, comes);
        }
        String call = "byTurns(" + one + other + ", " + thing + ", " + n + ", ";
        due(call + "0)", best, asked.byTurns(10 * one + other, thing, n, 0));
        due(call + "1)", first, asked.byTurns(10 * one + other, thing, n, 1));
    }

    /** 1, 0, -1 as it ends for the one, if from turn k on both do their best. */
    private int comes(int one, int other, int thing, int[] moves, int k) {
        if (k == moves.length) {
            int who = winsBehind(one, other, thing, moves);
            return who == one ? 1 : who == other ? -1 : 0;
        }
        boolean isOnes = k % 2 == 0;
        int best = isOnes ? -2 : 2;
        for (moves[k] = 0; moves[k] < 3; moves[k]++) {
            int found = comes(one, other, thing, moves, k + 1);
            best = isOnes ? Math.max(best, found) : Math.min(best, found);
        }
        return best;
    }

    private int winsBehind(int one, int other, int thing, int[] moves) {
        MissedSale deed = alike();
        for (int k = 0; k < moves.length; k++) {
            int mover = k % 2 == 0 ? one : other;
            if (moves[k] == 0) {
                deed.mend(mover, FEIGNS, Math.min(9, deed.of(mover, FEIGNS) + 1));
            } else if (moves[k] == 1) {
                deed.slip(one + other - mover, 1);
            }
        }
        return deed.wins(thing);
    }
}
