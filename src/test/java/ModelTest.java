import java.util.Random;

/** Long runs of calls with many sorts of numbers, answered by MissedSale and by PlainSale alike. */
public final class ModelTest {
    private static final int RUNS = 400, CALLS = 512;
    private static final String SIGNS = "clhvnm0123456789|&<=>+-*/%!-()?;";

    private final Random random;
    private final Check check;
    private MissedSale sale;
    private PlainSale plain;
    private int run;

    private ModelTest(long seed, Check check) {
        random = new Random(seed);
        this.check = check;
    }

    public static void main(String[] args) {
        Check check = new Check();
        ModelTest test = new ModelTest(20261117, check);
        for (int i = 0; i < RUNS && check.wrong() < 20; i++) {
            test.oneRun(i);
        }
        for (int i = 0; i < 600 && check.wrong() < 20; i++) {
            test.oneScene(i);
        }
        for (int i = 0; i < 20000 && check.wrong() < 20; i++) {
            test.oneLaw(i);
        }
        check.end("ModelTest");
    }

    private int below(int n) {
        return random.nextInt(n);
    }

    /** 0 .. most, now and then a little or far outside of it. */
    private int about(int most) {
        int r = below(40);
        if (r == 0) {
            return most + 1 + below(3);
        }
        if (r == 1) {
            return -1 - below(3);
        }
        if (r == 2 && below(4) == 0) {
            return random.nextInt();
        }
        return below(most + 1);
    }

    private int thingNumber() {
        return about(Math.max(0, plain.now.things.size() - 1));
    }

    private int bidderNumber() {
        return about(Math.max(0, plain.now.bidders.size() - 1));
    }

    private int pair() {
        return 10 * bidderNumber() + thingNumber();
    }

    private int shelfNumber() {
        return below(60) == 0 ? about(5) : below(plain.refused(1) == 0 ? 2 : 3) * below(2);
    }

    private int shelfPair() {
        return below(2) == 0 ? 1 : 10 * shelfNumber() + shelfNumber();
    }

    private void due(String call, long want, long got) {
        check.due("run " + run + ": " + call, want, got);
    }

    private void oneRun(int number) {
        run = number;
        sale = new MissedSale();
        plain = new PlainSale();
        if (number % 4 != 0) {
            fill();
        }
        for (int i = plain.now.things.size(); i < CALLS - 60 && check.wrong() < 20; i++) {
            oneCall();
        }
        allNumbers();
    }

    /** A full house with a full CATALOGUE, so that the sales in thought have much to sell. */
    private void oneScene(int number) {
        run = 10000 + number;
        sale = new MissedSale();
        plain = new PlainSale();
        int things = 3 + below(6);
        for (int i = 0; i < things; i++) {
            callThing(below(4));
        }
        int bidders = 2 + below(6);
        int alike = below(3);
        for (int b = 0; b < bidders; b++) {
            int constant = alike == 0 ? 7 + below(2) : below(10);
            int life = alike == 1 ? 90 : below(100);
            due("bidder", plain.bidder(constant, life), sale.bidder(constant, life));
            for (int i = 0; i < 4; i++) {
                mendTo(b, 6 + below(7), below(10));
            }
        }
        for (int i = below(4); i > 0; i--) {
            mendTo(below(things), 1, below(bidders));
        }
        if (below(3) == 0) {
            tellLaw(below(2) == 0 ? "c*v-n*7-m+l/4" : lines());
        }
        int n = 1 + below(18);
        due("row", plain.row(0, 0, n), sale.row(0, 0, n));
        for (int k = 0; k < n; k++) {
            callPut(0, k, below(40) == 0 ? below(12) - 2 : below(things));
        }
        for (int k = -1; k < 17; k++) {
            due("sale(0, " + k + ")", plain.sale(0, k), sale.sale(0, k));
        }
        for (int i = 0; i < 40 && check.wrong() < 20; i++) {
            if (below(5) == 0) {
                callDeed(below(5));
            }
            if (below(2) == 0) {
                callThought(below(7));
            } else {
                callDealing(below(8));
            }
        }
        allNumbers();
    }

    private void mendTo(int one, int what, int v) {
        due("mend(" + one + ", " + what + ", " + v + ")", plain.mend(one, what, v),
                sale.mend(one, what, v));
    }

    private void fill() {
        int things = below(9);
        for (int i = 0; i < things; i++) {
            callThing(below(4));
        }
        int bidders = below(8);
        for (int i = 0; i < bidders; i++) {
            int constant = below(10);
            int life = below(100);
            due("bidder", plain.bidder(constant, life), sale.bidder(constant, life));
        }
        for (int shelf = 0; shelf < 2; shelf++) {
            int n = 1 + below(9);
            due("row", plain.row(shelf, 0, n), sale.row(shelf, 0, n));
            for (int k = 0; k < n; k++) {
                callPut(shelf, k, below(9) == 0 ? below(12) - 1 : below(8));
            }
        }
    }

    private void allNumbers() {
        for (int what = 0; what < 13; what++) {
            for (int one = 0; one < (what < 4 ? 8 : 7); one++) {
                due("of(" + one + ", " + what + ")", plain.of(one, what), sale.of(one, what));
            }
        }
    }

    private void callThing(int kind) {
        due("thing(" + kind + ")", plain.thing(kind), sale.thing(kind));
    }

    private void callPut(int shelf, int i, long v) {
        due("put(" + shelf + ", " + i + ", " + v + ")", plain.put(shelf, i, v),
                sale.put(shelf, i, v));
    }

    private void oneCall() {
        int r = below(100);
        if (r < 22) {
            callMend();
        } else if (r < 50) {
            callThought(below(7));
        } else if (r < 68) {
            callDealing(below(8));
        } else if (r < 86) {
            callDeed(below(9));
        } else if (r < 97) {
            callShelf(below(10));
        } else {
            callComing(below(6));
        }
    }

    private void callMend() {
        int what = below(50) == 0 ? about(12) : below(13);
        int one = what < 4 ? thingNumber() : bidderNumber();
        int[] most = {3, 6, 1, 99, 9, 99, 9, 9, 1, 9, 9, 9, 9};
        int v = what == 1 ? below(9) - 2 : about(what < 0 || what > 12 ? 5 : most[what]);
        due("mend(" + one + ", " + what + ", " + v + ")", plain.mend(one, what, v),
                sale.mend(one, what, v));
        due("of(" + one + ", " + what + ")", plain.of(one, what), sale.of(one, what));
    }

    private void callThought(int which) {
        int bt = pair();
        int shelf = shelfNumber();
        int one = bidderNumber();
        int what = about(1);
        int k = about(15);
        switch (which) {
            case 0:
                due("years(" + bt + ", " + what + ")", plain.years(bt, what), sale.years(bt, what));
                break;
            case 1:
                int t = thingNumber();
                due("wins(" + t + ")", plain.wins(t), sale.wins(t));
                break;
            case 2:
                due("sale(" + shelf + ", " + k + ")", plain.sale(shelf, k), sale.sale(shelf, k));
                break;
            case 3:
                int w = about(2);
                int o = w == 0 || below(5) == 0 ? one : 0;
                due("after(" + shelf + ", " + o + ", " + w + ")", plain.after(shelf, o, w),
                        sale.after(shelf, o, w));
                break;
            case 4:
                int place = below(3) == 0 ? -1 : about(5);
                due("bestOrder(" + one + ", " + place + ")", plain.bestOrder(one, place),
                        sale.bestOrder(one, place));
                break;
            case 5:
                due("feign(" + bt + ")", plain.feign(bt), sale.feign(bt));
                break;
            default:
                due("examined(" + bt + ", " + what + ")", plain.examined(bt, what),
                        sale.examined(bt, what));
        }
    }

    private void callDealing(int which) {
        int one = bidderNumber();
        int ss = shelfPair();
        int what = about(which == 2 ? 2 : which == 5 ? 3 : 1);
        int n = about(60);
        switch (which) {
            case 0:
                int b = below(3) == 0 ? -1 : one;
                // the plain way goes through all deals, so the largest are asked for seldom
                if (plain.now.things.size() * plain.now.bidders.size() < 40 || below(20) == 0) {
                    due("dealt(" + b + ")", plain.dealt(b), sale.dealt(b));
                }
                break;
            case 1:
                due("hands()", plain.hands(), sale.hands());
                break;
            case 2:
                int o = what == 0 && below(5) > 0 ? 0 : one;
                due("later(" + n + ", " + o + ", " + what + ")", plain.later(n, o, what),
                        sale.later(n, o, what));
                break;
            case 3:
                due("missed(" + what + ")", plain.missed(what), sale.missed(what));
                break;
            case 4:
                tellBook(ss);
                due("judge(" + ss + ")", plain.judge(ss), sale.judge(ss));
                break;
            case 5:
                tellBook(ss);
                due("fits(" + ss + ", " + one + ", " + what + ")", plain.fits(ss, one, what),
                        sale.fits(ss, one, what));
                break;
            case 6:
                int ab = 10 * one + bidderNumber();
                int t = thingNumber();
                int turns = about(5);
                due("byTurns(" + ab + ", " + t + ", " + turns + ", " + what + ")",
                        plain.byTurns(ab, t, turns, what), sale.byTurns(ab, t, turns, what));
                break;
            default:
                int seed = random.nextInt();
                int ns = 100 * about(30) + about(12);
                int told = below(3) == 0 ? -1 : one;
                due("drawn(" + seed + ", " + ss / 10 + ", " + ns + ", " + told + ")",
                        plain.drawn(seed, ss / 10, ns, told), sale.drawn(seed, ss / 10, ns, told));
        }
    }

    /** A BOOK that is mostly so, on the second SHELF of ss, if both are there for it. */
    private void tellBook(int ss) {
        int cat = ss / 10;
        int book = ss % 10;
        if (ss < 0 || cat > 5 || book > 5 || cat == book || plain.refused(cat) != 0
                || below(4) == 0) {
            return;
        }
        int n = plain.catalogue(cat).size();
        n = Math.max(0, n - below(3) + (below(9) == 0 ? 1 : 0));
        due("row", plain.row(book, 0, n), sale.row(book, 0, n));
        for (int k = 0; k < n && k < 16; k++) {
            int who = plain.sale(cat, k);
            int told = below(12) == 0 ? below(14) - 2 : below(6) == 0 ? 10 : who;
            callPut(book, k, told);
        }
    }

    private void callDeed(int which) {
        int t = thingNumber();
        switch (which) {
            case 0:
                due("putUp(" + t + ")", plain.putUp(t), sale.putUp(t));
                break;
            case 1:
                due("loses(" + t + ")", plain.loses(t), sale.loses(t));
                break;
            case 2:
                int b = bidderNumber();
                int how = about(1);
                due("slip(" + b + ", " + how + ")", plain.slip(b, how), sale.slip(b, how));
                break;
            case 3:
                due("year()", plain.year(), sale.year());
                break;
            case 4:
                int what = about(4);
                due("led(" + what + ")", plain.led(what), sale.led(what));
                break;
            case 5:
                if (below(3) == 0) {
                    due("image()", plain.image(), sale.image());
                }
                break;
            case 6:
                due("back()", plain.back(), sale.back());
                break;
            case 7:
                due("undo()", plain.undo(), sale.undo());
                break;
            default:
                due("redo()", plain.redo(), sale.redo());
        }
    }

    private void callShelf(int which) {
        int shelf = shelfNumber();
        int lot = about(Math.max(0, plain.lots.size() - 1));
        int kind = about(7);
        int i = about(20);
        switch (which) {
            case 0:
                due("body(" + kind + ")", plain.body(kind), sale.body(kind));
                break;
            case 1:
                int act = about(3);
                int x = below(2) == 0 ? random.nextInt() : below(20);
                due("act(" + lot + ", " + act + ", " + x + ")", plain.act(lot, act, x),
                        sale.act(lot, act, x));
                break;
            case 2:
                due("trace(" + i + ")", plain.trace(i), sale.trace(i));
                break;
            case 3:
                int far = 3 + below(3);
                int body = below(4) == 0 ? -1 : lot;
                due("keep(" + far + ", " + body + ")", plain.keep(far, body), sale.keep(far, body));
                break;
            case 4:
                callRow();
                break;
            case 5:
                long v = below(3) == 0 ? random.nextLong() : below(12) - 1;
                callPut(about(5), i, v);
                break;
            case 6:
                int s = about(5);
                due("element(" + s + ", " + i + ")", plain.element(s, i), sale.element(s, i));
                break;
            case 7:
                callShift();
                break;
            case 8:
                int from = about(5);
                due("taken(" + from + ", " + kind + ")", plain.taken(from, kind),
                        sale.taken(from, kind));
                break;
            default:
                int what = about(5);
                due("count(" + what + ")", plain.count(what), sale.count(what));
        }
    }

    private void callRow() {
        int shelf = about(5);
        int sort = below(2) == 0 ? 0 : about(4);
        int n = below(2) == 0 ? below(20) : about(60);
        due("row(" + shelf + ", " + sort + ", " + n + ")", plain.row(shelf, sort, n),
                sale.row(shelf, sort, n));
    }

    private void callShift() {
        int shelf = about(5);
        int other = below(3) == 0 ? shelf : about(5);
        int i = about(12);
        int j = about(12);
        int n = about(8);
        due("shift(" + shelf + ", " + i + ", " + other + ", " + j + ", " + n + ")",
                plain.shift(shelf, i, other, j, n), sale.shift(shelf, i, other, j, n));
        for (int k = 0; k < 20; k++) {
            due("element(" + other + ", " + k + ")", plain.element(other, k),
                    sale.element(other, k));
        }
    }

    private void callComing(int which) {
        switch (which) {
            case 0:
                callThing(about(3));
                break;
            case 1:
                int c = about(9);
                int l = about(99);
                due("bidder(" + c + ", " + l + ")", plain.bidder(c, l), sale.bidder(c, l));
                break;
            case 2:
                int shelf = shelfNumber();
                int i = about(10);
                int n = about(7);
                due("bidders(" + shelf + ", " + i + ", " + n + ")", plain.bidders(shelf, i, n),
                        sale.bidders(shelf, i, n));
                break;
            default:
                tellLaw(below(3) == 0 ? noise(below(12)) : lines());
        }
    }

    private void tellLaw(String text) {
        for (int i = 0; i < text.length(); i++) {
            due("feed", plain.feed(text.charAt(i)), sale.feed(text.charAt(i)));
        }
        int letter = below(3) == 0 ? about(255) : -1;
        due("feed(" + letter + ")", plain.feed(letter), sale.feed(letter));
        due("law() of " + text, plain.law(), sale.law());
    }

    private String noise(int n) {
        StringBuilder text = new StringBuilder();
        for (int i = 0; i < n; i++) {
            text.append(SIGNS.charAt(below(SIGNS.length())));
        }
        return text.toString();
    }

    private String lines() {
        StringBuilder text = new StringBuilder();
        int n = 1 + below(3);
        for (int i = 0; i < n; i++) {
            text.append(i > 0 ? ";" : "");
            text.append(below(2) == 0 ? sum(3) + "?" : "").append(sum(3));
        }
        return text.toString();
    }

    private String sum(int depth) {
        int r = below(12);
        if (depth == 0 || r < 4) {
            return below(2) == 0 ? "" + "clhvnm".charAt(below(6)) : "" + below(below(20) + 1);
        }
        if (r == 4) {
            return "!" + sum(0);
        }
        if (r == 5) {
            return "-" + sum(0);
        }
        if (r == 6) {
            return "(" + sum(depth - 1) + ")";
        }
        return sum(depth - 1) + "|&<=>+-*/%+-*/".charAt(below(14)) + sum(depth - 1);
    }

    /** One text, its fault or what it gives, on an object of its own. */
    private void oneLaw(int number) {
        run = 100000 + number;
        sale = new MissedSale();
        plain = new PlainSale();
        callThing(below(4));
        int constant = below(10);
        int life = below(100);
        due("bidder", plain.bidder(constant, life), sale.bidder(constant, life));
        String text = lines();
        if (below(2) == 0 && !text.isEmpty()) {
            int at = below(text.length());
            text = text.substring(0, at) + noise(1 + below(3)) + text.substring(at + below(2));
        }
        if (below(6) == 0) {
            text = noise(1 + below(10)).replaceAll("[^(!-]", "(") + text;
        }
        tellLaw(text.substring(0, Math.min(118, text.length())));
        due("years(0, 0) by " + text, plain.years(0, 0), sale.years(0, 0));
    }
}
