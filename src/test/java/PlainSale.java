import java.util.ArrayList;
import java.util.List;

/**
 * The document once more, written to be read and not to be fast: every thought is a deep copy, every
 * answer is found by going through all there is. ModelTest compares MissedSale with it.
 */
final class PlainSale {
    static final int BAD = -1, NOT = -2, FULL = -3, STATE = -5, VOID = -2000000000;

    static final class Thing {
        int kind, owner = -1, lost, missed;

        Thing copy() {
            Thing t = new Thing();
            t.kind = kind;
            t.owner = owner;
            t.lost = lost;
            t.missed = missed;
            return t;
        }
    }

    static final class Bidder {
        int constant = 5, life = 40, heirs, feigns, slips;
        int[] loves = {5, 5, 5, 5};

        Bidder copy() {
            Bidder b = new Bidder();
            b.constant = constant;
            b.life = life;
            b.heirs = heirs;
            b.feigns = feigns;
            b.slips = slips;
            b.loves = loves.clone();
            return b;
        }
    }

    /** THINGS and BIDDERS as they are, or as they are thought to be. */
    static final class World {
        List<Thing> things = new ArrayList<>();
        List<Bidder> bidders = new ArrayList<>();
        String law;

        World copy() {
            World w = new World();
            for (Thing t : things) {
                w.things.add(t.copy());
            }
            for (Bidder b : bidders) {
                w.bidders.add(b.copy());
            }
            w.law = law;
            return w;
        }

        int has(int b) {
            int n = 0;
            for (Thing t : things) {
                n += t.owner == b && t.lost == 0 ? 1 : 0;
            }
            return n;
        }

        int years(int b, int kind, int n) {
            Bidder bidder = bidders.get(b);
            int m = 0;
            for (Thing t : things) {
                m += t.owner == b && t.lost == 1 && t.missed > 0 ? 1 : 0;
            }
            int v = bidder.loves[kind];
            int raw;
            if (law == null) {
                raw = bidder.constant * v;
                raw = raw > bidder.life + bidder.heirs ? bidder.life + bidder.heirs : raw;
                raw -= 5 * n;
            } else {
                raw = PlainLaw.value(law,
                        new int[] {bidder.constant, bidder.life, bidder.heirs, v, n, m});
            }
            return raw < 0 ? 0 : raw > 99 ? 99 : raw;
        }

        int years(int b, int t) {
            return years(b, things.get(t).kind, has(b));
        }

        int bid(int b, int t) {
            Bidder bidder = bidders.get(b);
            int would = years(b, t);
            if (bidder.slips == 1) {
                return bidder.feigns > 0 ? 0 : would;
            }
            return Math.min(99, would + bidder.feigns);
        }

        int winner(int t) {
            int most = 0;
            for (int b = 0; b < bidders.size(); b++) {
                most = Math.max(most, bid(b, t));
            }
            if (most == 0) {
                return NOT;
            }
            int who = NOT;
            for (int b = 0; b < bidders.size(); b++) {
                if (bid(b, t) == most) {
                    who = who == NOT ? b : 8;
                }
            }
            return who;
        }

        boolean isOpen(int t) {
            return things.get(t).owner == -1 && things.get(t).lost == 0;
        }

        int sell(int t) {
            if (!isOpen(t)) {
                return 9;
            }
            int who = winner(t);
            if (who == 8) {
                things.get(t).lost = 1;
                things.get(t).missed = 0;
            } else if (who >= 0) {
                things.get(t).owner = who;
            }
            return who;
        }

        void year() {
            for (Thing t : things) {
                t.missed = t.missed > 0 ? t.missed - 1 : 0;
            }
            for (Bidder b : bidders) {
                b.life = b.life > 0 ? b.life - 1 : 0;
                if (b.life == 0 && b.heirs > 0) {
                    b.heirs--;
                }
            }
        }

        int get(int one, int what) {
            switch (what) {
                case 0: return things.get(one).kind;
                case 1: return things.get(one).owner;
                case 2: return things.get(one).lost;
                case 3: return things.get(one).missed;
                case 4: return bidders.get(one).constant;
                case 5: return bidders.get(one).life;
                case 6: return bidders.get(one).heirs;
                case 7: return bidders.get(one).feigns;
                case 8: return bidders.get(one).slips;
                default: return bidders.get(one).loves[what - 9];
            }
        }

        void set(int one, int what, int v) {
            switch (what) {
                case 0: things.get(one).kind = v; break;
                case 1: things.get(one).owner = v; break;
                case 2: things.get(one).lost = v; break;
                case 3: things.get(one).missed = v; break;
                case 4: bidders.get(one).constant = v; break;
                case 5: bidders.get(one).life = v; break;
                case 6: bidders.get(one).heirs = v; break;
                case 7: bidders.get(one).feigns = v; break;
                case 8: bidders.get(one).slips = v; break;
                default: bidders.get(one).loves[what - 9] = v;
            }
        }
    }

    World now = new World();
    World image;
    int[] imageLed;
    int[] led = new int[5];
    StringBuilder tape = new StringBuilder();
    List<int[]> undone = new ArrayList<>();
    List<int[]> done = new ArrayList<>();
    List<PlainLots.Lot> lots = new ArrayList<>();
    List<Integer> trace = new ArrayList<>();
    Object[] shelves = new Object[6];

    boolean isThing(int t) {
        return t >= 0 && t < now.things.size();
    }

    boolean isBidder(int b) {
        return b >= 0 && b < now.bidders.size();
    }

    boolean isPair(int bt) {
        return bt >= 0 && isBidder(bt / 10) && isThing(bt % 10);
    }

    boolean isShelf(int s) {
        return s >= 0 && s < 6;
    }

    int refused(int s) {
        return shelves[s] == null ? -11 : shelves[s] instanceof byte[] ? 0 : -12;
    }

    int thing(int kind) {
        if (kind < 0 || kind > 3) {
            return BAD;
        }
        if (now.things.size() == 8) {
            return FULL;
        }
        Thing t = new Thing();
        t.kind = kind;
        now.things.add(t);
        return now.things.size() - 1;
    }

    int bidder(int constant, int life) {
        if (constant < 0 || constant > 9 || life < 0 || life > 99) {
            return BAD;
        }
        if (now.bidders.size() == 7) {
            return FULL;
        }
        Bidder b = new Bidder();
        b.constant = constant;
        b.life = life;
        now.bidders.add(b);
        return now.bidders.size() - 1;
    }

    int bidders(int shelf, int i, int n) {
        if (!isShelf(shelf) || n < 1 || n > 7) {
            return BAD;
        }
        if (shelves[shelf] == null) {
            return 0;
        }
        if (!(shelves[shelf] instanceof byte[])) {
            return -12;
        }
        byte[] row = (byte[]) shelves[shelf];
        int came = 0;
        long at = i;
        while (came < n && at >= 0 && at + 2 < row.length) {
            int c = row[(int) at];
            int l = row[(int) at + 1];
            int f = row[(int) at + 2];
            if (f < 0 || f > 9 || bidder(c, l) < 0) {
                break;
            }
            now.bidders.get(now.bidders.size() - 1).feigns = f;
            came++;
            at += 3;
        }
        return came;
    }

    int mend(int number, int what, int v) {
        int[] least = {0, -1, 0, 0, 0, 0, 0, 0, 0, 0, 0, 0, 0};
        int[] most = {3, now.bidders.size() - 1, 1, 99, 9, 99, 9, 9, 1, 9, 9, 9, 9};
        int was = of(number, what);
        if (was == VOID || v < least[what] || v > most[what]) {
            return VOID;
        }
        if (was != v) {
            now.set(number, what, v);
            undone.clear();
            done.add(new int[] {number, what, was, v});
            if (done.size() > 40) {
                done.remove(0);
            }
        }
        return was;
    }

    int of(int number, int what) {
        if (what < 0 || what > 12 || !(what < 4 ? isThing(number) : isBidder(number))) {
            return VOID;
        }
        return now.get(number, what);
    }

    int feed(int letter) {
        if (letter < 0 || letter > 255) {
            return BAD;
        }
        if (tape.length() == 120) {
            return FULL;
        }
        tape.append((char) letter);
        return tape.length();
    }

    int law() {
        String text = tape.toString();
        tape.setLength(0);
        int fault = PlainLaw.fault(text);
        if (fault >= 0) {
            return -100 - fault;
        }
        now.law = text;
        return 1;
    }

    int years(int bt, int what) {
        if (!isPair(bt) || what < 0 || what > 1) {
            return BAD;
        }
        return what == 0 ? now.years(bt / 10, bt % 10) : now.bid(bt / 10, bt % 10);
    }

    int wins(int thing) {
        return isThing(thing) ? now.winner(thing) : BAD;
    }

    /** The THINGS of a CATALOGUE. */
    List<Integer> catalogue(int shelf) {
        List<Integer> list = new ArrayList<>();
        for (byte b : (byte[]) shelves[shelf]) {
            if (!isThing(b) || list.size() == 16) {
                break;
            }
            list.add((int) b);
        }
        return list;
    }

    List<Integer> sold(World w, int shelf) {
        List<Integer> who = new ArrayList<>();
        for (int t : catalogue(shelf)) {
            who.add(w.sell(t));
        }
        return who;
    }

    int sale(int shelf, int k) {
        if (!isShelf(shelf) || k < 0 || k > 15) {
            return BAD;
        }
        if (refused(shelf) != 0) {
            return refused(shelf);
        }
        List<Integer> who = sold(now.copy(), shelf);
        return k < who.size() ? who.get(k) : NOT;
    }

    int after(int shelf, int one, int what) {
        if (!isShelf(shelf) || what < 0 || what > 2 || what == 0 && !isBidder(one)
                || what > 0 && one != 0) {
            return BAD;
        }
        if (refused(shelf) != 0) {
            return refused(shelf);
        }
        World w = now.copy();
        List<Integer> who = sold(w, shelf);
        int many = 0;
        for (int won : who) {
            many += what == 1 && won == 8 || what == 2 && won >= 0 && won < 7 ? 1 : 0;
        }
        return what == 0 ? w.has(one) : many;
    }

    static void orders(List<Integer> left, List<Integer> order, List<List<Integer>> all) {
        if (left.isEmpty()) {
            all.add(new ArrayList<>(order));
        }
        for (int i = 0; i < left.size(); i++) {
            List<Integer> rest = new ArrayList<>(left);
            order.add(rest.remove(i));
            orders(rest, order, all);
            order.remove(order.size() - 1);
        }
    }

    int bestOrder(int one, int k) {
        if (!isBidder(one) || k < -1) {
            return BAD;
        }
        List<Integer> open = new ArrayList<>();
        for (int t = 0; t < now.things.size(); t++) {
            if (now.isOpen(t)) {
                open.add(t);
            }
        }
        if (open.size() > 5) {
            return STATE;
        }
        List<List<Integer>> all = new ArrayList<>();
        orders(open, new ArrayList<>(), all);
        int most = -1;
        List<Integer> best = null;
        for (List<Integer> order : all) {
            World w = now.copy();
            for (int t : order) {
                w.sell(t);
            }
            if (w.has(one) > most) {
                most = w.has(one);
                best = order;
            }
        }
        return k == -1 ? most : k < open.size() ? best.get(k) : NOT;
    }

    int feign(int bt) {
        if (!isPair(bt)) {
            return BAD;
        }
        for (int f = 0; f < 10; f++) {
            World w = now.copy();
            w.bidders.get(bt / 10).feigns = f;
            if (w.winner(bt % 10) == bt / 10) {
                return f;
            }
        }
        return NOT;
    }

    int examined(int bt, int what) {
        if (!isPair(bt) || what < 0 || what > 1) {
            return BAD;
        }
        for (int many = 0; many <= now.bidders.size(); many++) {
            for (int bits = 0; bits < 1 << now.bidders.size(); bits++) {
                if (Integer.bitCount(bits) == many) {
                    World w = now.copy();
                    for (int b = 0; b < w.bidders.size(); b++) {
                        w.bidders.get(b).slips |= bits >> b & 1;
                    }
                    if (w.winner(bt % 10) == bt / 10) {
                        return what == 0 ? many : bits;
                    }
                }
            }
        }
        return NOT;
    }

    int dealtYears;
    int[] dealtBest;

    int[][] dealtOf;

    void deal(int b, int[] share, int years, boolean[] taken) {
        if (b == now.bidders.size()) {
            if (years > dealtYears) {
                dealtYears = years;
                dealtBest = share.clone();
            }
            return;
        }
        for (int t = 0; t < now.things.size(); t++) {
            if (now.isOpen(t) && !taken[t]) {
                taken[t] = true;
                share[b] = t;
                deal(b + 1, share, years + dealtOf[b][t], taken);
                taken[t] = false;
            }
        }
        share[b] = 8;
        deal(b + 1, share, years, taken);
    }

    int dealt(int bidder) {
        if (bidder != -1 && !isBidder(bidder)) {
            return BAD;
        }
        dealtYears = -1;
        dealtOf = new int[7][8];
        for (int b = 0; b < now.bidders.size(); b++) {
            for (int t = 0; t < now.things.size(); t++) {
                dealtOf[b][t] = now.years(b, t);
            }
        }
        deal(0, new int[7], 0, new boolean[8]);
        return bidder == -1 ? dealtYears : dealtBest[bidder];
    }

    int hands() {
        int pairs = 0;
        for (int a = 0; a < now.things.size(); a++) {
            for (int b = 0; b < a; b++) {
                Thing s = now.things.get(a);
                Thing t = now.things.get(b);
                if (s.lost == 0 && t.lost == 0 && s.owner >= 0 && t.owner >= 0
                        && s.owner != t.owner
                        && now.years(s.owner, t.kind, now.has(s.owner) - 1)
                        > now.years(s.owner, s.kind, now.has(s.owner) - 1)
                        && now.years(t.owner, s.kind, now.has(t.owner) - 1)
                        > now.years(t.owner, t.kind, now.has(t.owner) - 1)) {
                    pairs++;
                }
            }
        }
        return pairs;
    }

    int later(int n, int one, int what) {
        if (n < 0 || n > 60 || what < 0 || what > 2 || what == 0 && one != 0
                || what > 0 && !isBidder(one)) {
            return BAD;
        }
        World w = now.copy();
        for (int i = 0; i < n; i++) {
            w.year();
        }
        int bits = 0;
        for (int t = 0; t < w.things.size(); t++) {
            bits += w.things.get(t).missed > 0 ? 1 << t : 0;
        }
        return what == 0 ? bits : what == 1 ? w.bidders.get(one).life : w.bidders.get(one).heirs;
    }

    int missed(int what) {
        if (what < 0 || what > 1) {
            return BAD;
        }
        if (what == 0) {
            for (int n = 0; n <= 60; n++) {
                if (later(n, 0, 0) == 0) {
                    return n;
                }
            }
            return NOT;
        }
        int which = NOT;
        for (int t = now.things.size() - 1; t >= 0; t--) {
            int m = now.things.get(t).missed;
            if (m > 0 && (which == NOT || m >= now.things.get(which).missed)) {
                which = t;
            }
        }
        return which;
    }

    int judged(World w, int ss) {
        List<Integer> who = sold(w.copy(), ss / 10);
        byte[] book = (byte[]) shelves[ss % 10];
        for (int k = 0; k < book.length; k++) {
            if (k >= who.size()) {
                return k;
            }
            if (book[k] != 10 && book[k] != who.get(k)) {
                return k;
            }
        }
        return NOT;
    }

    int refusedBoth(int ss) {
        return refused(ss / 10) != 0 ? refused(ss / 10) : refused(ss % 10);
    }

    int judge(int ss) {
        if (ss < 0 || !isShelf(ss / 10) || !isShelf(ss % 10)) {
            return BAD;
        }
        return refusedBoth(ss) != 0 ? refusedBoth(ss) : judged(now, ss);
    }

    int fits(int ss, int one, int what) {
        if (ss < 0 || !isShelf(ss / 10) || !isShelf(ss % 10) || !isBidder(one) || what < 0
                || what > 3) {
            return BAD;
        }
        if (refusedBoth(ss) != 0) {
            return refusedBoth(ss);
        }
        List<Integer> fit = new ArrayList<>();
        for (int v = 0; v < (what < 2 ? 10 : 100); v++) {
            World w = now.copy();
            w.set(one, what < 2 ? 4 : 5, v);
            if (judged(w, ss) == NOT) {
                fit.add(v);
            }
        }
        return what % 2 == 0 ? fit.size() : fit.isEmpty() ? NOT : fit.get(0);
    }

    /** The outcome for the one if both do their best, with n turns left and the one's turn or not. */
    static int play(World w, int one, int other, int thing, int n, boolean ones) {
        if (n == 0) {
            int who = w.winner(thing);
            return who == one ? 1 : who == other ? -1 : 0;
        }
        int best = ones ? -9 : 9;
        for (int move = 0; move < 3; move++) {
            int v = play(moved(w, ones ? one : other, ones ? other : one, move), one, other, thing,
                    n - 1, !ones);
            best = ones ? Math.max(best, v) : Math.min(best, v);
        }
        return best;
    }

    static World moved(World w, int mover, int rival, int move) {
        World next = w.copy();
        if (move == 0 && next.bidders.get(mover).feigns < 9) {
            next.bidders.get(mover).feigns++;
        }
        if (move == 1) {
            next.bidders.get(rival).slips = 1;
        }
        return next;
    }

    int byTurns(int ab, int thing, int n, int what) {
        if (ab < 0 || !isBidder(ab / 10) || !isBidder(ab % 10) || ab / 10 == ab % 10
                || !isThing(thing) || n < 1 || n > 5 || what < 0 || what > 1) {
            return VOID;
        }
        int a = ab / 10;
        int b = ab % 10;
        int best = play(now, a, b, thing, n, true);
        if (what == 0) {
            return best;
        }
        for (int move : new int[] {2, 0, 1}) {
            if (play(moved(now, a, b, move), a, b, thing, n - 1, false) == best) {
                return move;
            }
        }
        return VOID;
    }

    int drawn(int seed, int shelf, int ns, int one) {
        if (!isShelf(shelf) || ns < 0 || ns / 100 < 1 || ns / 100 > 30 || ns % 100 > 12
                || one != -1 && !isBidder(one)) {
            return BAD;
        }
        if (refused(shelf) != 0) {
            return refused(shelf);
        }
        int z = seed;
        int many = 0;
        for (int i = 0; i < ns / 100; i++) {
            World w = now.copy();
            for (int t : catalogue(shelf)) {
                z = z * 1103515245 + 12345;
                if (!w.bidders.isEmpty() && (z >>> 16) % 12 < ns % 100) {
                    w.bidders.get((z >>> 8) % w.bidders.size()).slips = 1;
                }
                int who = w.sell(t);
                many += who == (one == -1 ? 8 : one) ? 1 : 0;
            }
        }
        return many;
    }

    int putUp(int thing) {
        if (!isThing(thing)) {
            return BAD;
        }
        if (!now.isOpen(thing)) {
            return STATE;
        }
        int who = now.sell(thing);
        if (who != NOT) {
            led[who == 8 ? 1 : 0]++;
        }
        return who;
    }

    int loses(int thing) {
        if (!isThing(thing)) {
            return BAD;
        }
        Thing t = now.things.get(thing);
        if (t.owner == -1 || t.lost == 1) {
            return STATE;
        }
        Bidder b = now.bidders.get(t.owner);
        t.lost = 1;
        t.missed = 0;
        t.missed = Math.min(now.years(t.owner, thing), b.life + b.heirs);
        led[2]++;
        return t.missed;
    }

    int slip(int bidder, int how) {
        if (!isBidder(bidder) || how < 0 || how > 1) {
            return BAD;
        }
        int was = now.bidders.get(bidder).slips;
        now.bidders.get(bidder).slips = how;
        if (how == 1) {
            led[3]++;
        }
        return was;
    }

    int year() {
        now.year();
        led[4]++;
        return Integer.bitCount(later(0, 0, 0));
    }

    int led(int what) {
        return what < 0 || what > 4 ? BAD : led[what];
    }

    int image() {
        image = now.copy();
        imageLed = led.clone();
        return led[4];
    }

    int back() {
        if (image == null) {
            return STATE;
        }
        for (int t = 0; t < image.things.size(); t++) {
            for (int what : new int[] {1, 2, 3}) {
                now.set(t, what, image.get(t, what));
            }
        }
        for (int b = 0; b < image.bidders.size(); b++) {
            for (int what : new int[] {5, 6, 8}) {
                now.set(b, what, image.get(b, what));
            }
        }
        led = imageLed.clone();
        return led[4];
    }

    int undo() {
        if (done.isEmpty()) {
            return STATE;
        }
        int[] c = done.remove(done.size() - 1);
        now.set(c[0], c[1], c[2]);
        undone.add(c);
        return done.size();
    }

    int redo() {
        if (undone.isEmpty()) {
            return STATE;
        }
        int[] c = undone.remove(undone.size() - 1);
        now.set(c[0], c[1], c[3]);
        done.add(c);
        return undone.size();
    }

    int body(int kind) {
        if (kind < 0 || kind > 7) {
            return BAD;
        }
        if (lots.size() == 50) {
            return FULL;
        }
        lots.add(PlainLots.make(kind, lots.size(), trace));
        return lots.size() - 1;
    }

    int act(int body, int act, int x) {
        trace.clear();
        if (body < 0 || body >= lots.size() || act < 0 || act > 3) {
            return 0;
        }
        PlainLots.Lot lot = lots.get(body);
        return act == 0 ? lot.bids(x) : act == 1 ? lot.misses(x) : act == 2 ? lot.loses(x)
                : lot.tells(x);
    }

    int trace(int i) {
        return i < 0 || i >= Math.min(24, trace.size()) ? BAD : trace.get(i);
    }

    int keep(int shelf, int body) {
        if (!isShelf(shelf) || body < -1 || body >= lots.size()) {
            return BAD;
        }
        shelves[shelf] = body == -1 ? null : lots.get(body);
        return 1;
    }

    int row(int shelf, int sort, int n) {
        if (!isShelf(shelf) || sort < 0 || sort > 4 || n > 60) {
            return BAD;
        }
        if (n < 0) {
            return -14;
        }
        shelves[shelf] = sort == 0 ? new byte[n] : sort == 1 ? new short[n] : sort == 2
                ? new int[n] : sort == 3 ? new long[n] : (Object) new boolean[n];
        return 1;
    }

    private int place(int shelf, int i) {
        if (!isShelf(shelf)) {
            return BAD;
        }
        if (shelves[shelf] == null) {
            return -11;
        }
        if (!shelves[shelf].getClass().isArray()) {
            return -12;
        }
        return i < 0 || i >= java.lang.reflect.Array.getLength(shelves[shelf]) ? -13 : 0;
    }

    int put(int shelf, int i, long v) {
        int refused = place(shelf, i);
        if (refused != 0) {
            return refused;
        }
        Object row = shelves[shelf];
        if (row instanceof byte[]) {
            ((byte[]) row)[i] = (byte) v;
        } else if (row instanceof short[]) {
            ((short[]) row)[i] = (short) v;
        } else if (row instanceof int[]) {
            ((int[]) row)[i] = (int) v;
        } else if (row instanceof long[]) {
            ((long[]) row)[i] = v;
        } else {
            ((boolean[]) row)[i] = v != 0;
        }
        return 1;
    }

    long element(int shelf, int i) {
        if (place(shelf, i) != 0) {
            return Long.MIN_VALUE;
        }
        Object row = shelves[shelf];
        return row instanceof boolean[] ? ((boolean[]) row)[i] ? 1 : 0
                : java.lang.reflect.Array.getLong(row, i);
    }

    int shift(int shelf, int i, int other, int j, int n) {
        if (!isShelf(shelf) || !isShelf(other)) {
            return BAD;
        }
        try {
            System.arraycopy(shelves[shelf], i, shelves[other], j, n);
            return n;
        } catch (NullPointerException e) {
            return -11;
        } catch (ArrayStoreException e) {
            return -12;
        } catch (IndexOutOfBoundsException e) {
            return -13;
        }
    }

    int taken(int shelf, int k) {
        if (!isShelf(shelf) || k < 0 || k > 7) {
            return BAD;
        }
        if (shelves[shelf] == null) {
            return -11;
        }
        if (!PlainLots.CLASSES.get(k).isInstance(shelves[shelf])) {
            return -12;
        }
        return PlainLots.CLASSES.indexOf(shelves[shelf].getClass());
    }

    int count(int what) {
        int[] many = {now.things.size(), now.bidders.size(), tape.length(), done.size(), lots.size(),
            trace.size()};
        return what < 0 || what > 5 ? BAD : many[what];
    }
}
