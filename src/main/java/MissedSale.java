import java.util.Arrays;

/**
 * A sale at which a thing goes to whichever bidder will miss it longest when it is gone.
 *
 * The public methods test their arguments and hand on to the classes inside; all rows are made in
 * constructors and used again, so that no call makes an object.
 */
public final class MissedSale {
    public static final int BAD = -1, NOT = -2, FULL = -3, STATE = -5, VOID = -2000000000;

    private static final int THINGS = 8, BIDDERS = 7, KINDS = 4, SHELVES = 6, ROW = 60;
    private static final int CATALOGUE = 16, PIECES = 8, PASSED = 9, UNKNOWN = 10, YEARS = 99;
    private static final int NOTHING_THERE = -11, OTHER_KIND = -12, NO_PLACE = -13, NO_SIZE = -14;

    private static final int KIND = 0, OWNER = 1, LOST = 2, MISSED = 3;
    private static final int CONSTANT = 4, LIFE = 5, HEIRS = 6, FEIGNS = 7, SLIPS = 8, LOVE = 9;
    private static final int WHATS = 13;
    private static final int[] MOST = {3, 6, 1, 99, 9, 99, 9, 9, 1, 9, 9, 9, 9};

    private static final int SOLD = 0, BROKEN = 1, GONE = 2, EXAMINED = 3, PAST = 4, LEDS = 5;

    private final House house;
    private final Law law;
    private final Thought thought;
    private final Ways ways;
    private final Dealing dealing;
    private final Changes changes;
    private final Image image;
    private final Lots lots;
    private final Shelf[] shelves;
    private final int[] led;

    public MissedSale() {
        house = new House();
        law = new Law();
        thought = new Thought(law);
        ways = new Ways(thought);
        dealing = new Dealing();
        changes = new Changes();
        image = new Image();
        lots = new Lots();
        led = new int[LEDS];
        shelves = new Shelf[SHELVES];
        for (int i = 0; i < SHELVES; i++) {
            shelves[i] = new Shelf();
        }
    }

    // ---- things, bidders

    public int thing(int kind) {
        if (kind < 0 || kind >= KINDS) {
            return BAD;
        }
        return house.addThing(kind);
    }

    public int bidder(int constant, int life) {
        if (!isWithin(CONSTANT, constant) || !isWithin(LIFE, life)) {
            return BAD;
        }
        return house.addBidder(constant, life, 0);
    }

    public int bidders(int shelf, int i, int n) {
        if (!isShelf(shelf) || n < 1 || n > BIDDERS) {
            return BAD;
        }
        Shelf from = shelves[shelf];
        if (from.holds == Shelf.NOTHING) {
            return 0;
        }
        if (!from.holdsBytes()) {
            return OTHER_KIND;
        }
        int came = 0;
        // a place below 0 is not BAD: the row has nothing there, so it ends at once
        for (int place = i; came < n && from.hasRun(place, 3); place += 3) {
            if (!comesFrom(from, place)) {
                break;
            }
            came++;
        }
        return came;
    }

    private boolean comesFrom(Shelf from, int place) {
        int constant = (int) from.at(place);
        int life = (int) from.at(place + 1);
        int feigns = (int) from.at(place + 2);
        return isWithin(CONSTANT, constant) && isWithin(LIFE, life) && isWithin(FEIGNS, feigns)
                && house.addBidder(constant, life, feigns) != FULL;
    }

    public int mend(int number, int what, int v) {
        if (!house.has(number, what) || !mayBe(what, v)) {
            return VOID;
        }
        int was = house.number(number, what);
        if (was != v) {
            house.become(number, what, v);
            changes.came(number, what, was, v);
        }
        return was;
    }

    public int of(int number, int what) {
        return house.has(number, what) ? house.number(number, what) : VOID;
    }

    public int feed(int letter) {
        if (letter < 0 || letter > 255) {
            return BAD;
        }
        return law.isTapeFull() ? FULL : law.comes(letter);
    }

    public int law() {
        return law.fromTape();
    }

    public int years(int bt, int what) {
        if (!isPair(bt) || what < 0 || what > 1) {
            return BAD;
        }
        thought.begin(house);
        thought.considers(bt % 10);
        return what == 0 ? thought.would[bt / 10] : thought.bid(bt / 10);
    }

    // ---- sales in thought

    public int wins(int thing) {
        if (!house.hasThing(thing)) {
            return BAD;
        }
        thought.begin(house);
        thought.considers(thing);
        return thought.winner();
    }

    public int sale(int shelf, int k) {
        if (!isShelf(shelf) || k < 0 || k >= CATALOGUE) {
            return BAD;
        }
        int refused = shelves[shelf].refusesBytes();
        if (refused != 0) {
            return refused;
        }
        thought.begin(house);
        thought.sellsAll(shelves[shelf]);
        return k < thought.listed ? thought.won[k] : NOT;
    }

    public int after(int shelf, int one, int what) {
        boolean known = what == 0 ? house.hasBidder(one) : (what == 1 || what == 2) && one == 0;
        if (!isShelf(shelf) || !known) {
            return BAD;
        }
        int refused = shelves[shelf].refusesBytes();
        if (refused != 0) {
            return refused;
        }
        thought.begin(house);
        thought.sellsAll(shelves[shelf]);
        if (what == 0) {
            return thought.had[one];
        }
        return what == 1 ? thought.pieces : thought.sold;
    }

    public int bestOrder(int one, int k) {
        if (!house.hasBidder(one) || k < -1) {
            return BAD;
        }
        thought.begin(house);
        int open = Integer.bitCount(thought.open);
        if (open > Ways.ORDERED) {
            return STATE;
        }
        int most = ways.orders(one, open);
        if (k < 0) {
            return most;
        }
        return k < open ? ways.best[k] : NOT;
    }

    public int feign(int bt) {
        if (!isPair(bt)) {
            return BAD;
        }
        thought.begin(house);
        thought.considers(bt % 10);
        int one = bt / 10;
        for (int feigns = 0; feigns <= MOST[FEIGNS]; feigns++) {
            thought.house.become(one, FEIGNS, feigns);
            if (thought.winner() == one) {
                return feigns;
            }
        }
        return NOT;
    }

    public int examined(int bt, int what) {
        if (!isPair(bt) || what < 0 || what > 1) {
            return BAD;
        }
        thought.begin(house);
        thought.considers(bt % 10);
        int which = ways.fewestExamined(bt / 10);
        if (which < 0) {
            return NOT;
        }
        return what == 0 ? Integer.bitCount(which) : which;
    }

    // ---- dealing, years

    public int dealt(int bidder) {
        if (bidder != -1 && !house.hasBidder(bidder)) {
            return BAD;
        }
        thought.begin(house);
        dealing.deals(thought);
        return bidder < 0 ? dealing.total() : dealing.share(bidder);
    }

    public int hands() {
        thought.begin(house);
        int pairs = 0;
        for (int a = 0; a < house.things; a++) {
            for (int b = a + 1; b < house.things; b++) {
                if (thought.wouldChange(a, b) && thought.wouldChange(b, a)) {
                    pairs++;
                }
            }
        }
        return pairs;
    }

    public int later(int n, int one, int what) {
        boolean known = what == 0 ? one == 0 : (what == 1 || what == 2) && house.hasBidder(one);
        if (n < 0 || n > 60 || !known) {
            return BAD;
        }
        thought.begin(house);
        for (int i = 0; i < n; i++) {
            thought.house.yearPasses();
        }
        if (what == 0) {
            return thought.house.missedBits();
        }
        return thought.house.number(one, what == 1 ? LIFE : HEIRS);
    }

    public int missed(int what) {
        if (what < 0 || what > 1) {
            return BAD;
        }
        int longest = house.missedLongest();
        if (what == 1) {
            return longest;
        }
        int quiet = longest < 0 ? 0 : house.number(longest, MISSED);
        return quiet <= 60 ? quiet : NOT;
    }

    public int judge(int ss) {
        if (!areShelves(ss)) {
            return BAD;
        }
        int refused = refusesBoth(ss);
        if (refused != 0) {
            return refused;
        }
        thought.begin(house);
        return thought.firstWrong(shelves[ss / 10], shelves[ss % 10]);
    }

    public int fits(int ss, int one, int what) {
        if (!areShelves(ss) || !house.hasBidder(one) || what < 0 || what > 3) {
            return BAD;
        }
        int refused = refusesBoth(ss);
        if (refused != 0) {
            return refused;
        }
        thought.begin(house);
        int varied = what < 2 ? CONSTANT : LIFE;
        int many = 0;
        int least = NOT;
        for (int v = MOST[varied]; v >= 0; v--) {
            thought.varies(one, varied, v);
            if (thought.firstWrong(shelves[ss / 10], shelves[ss % 10]) == NOT) {
                many++;
                least = v;
            }
        }
        return what % 2 == 0 ? many : least;
    }

    public int byTurns(int ab, int thing, int n, int what) {
        if (ab < 0 || !house.hasBidder(ab / 10) || !house.hasBidder(ab % 10) || ab / 10 == ab % 10
                || !house.hasThing(thing) || n < 1 || n > Ways.TURNS || what < 0 || what > 1) {
            return VOID;
        }
        thought.begin(house);
        thought.considers(thing);
        int outcome = ways.turns(ab / 10, ab % 10, n);
        return what == 0 ? outcome : ways.firstMove;
    }

    public int drawn(int seed, int shelf, int ns, int one) {
        if (!isShelf(shelf) || ns < 100 || ns / 100 > 30 || ns % 100 > 12
                || (one != -1 && !house.hasBidder(one))) {
            return BAD;
        }
        int refused = shelves[shelf].refusesBytes();
        if (refused != 0) {
            return refused;
        }
        thought.begin(house);
        int z = seed;
        int many = 0;
        for (int i = 0; i < ns / 100; i++) {
            thought.restarts();
            int had = one < 0 ? 0 : thought.had[one];
            z = thought.sellsByDraws(shelves[shelf], z, ns % 100);
            many += one < 0 ? thought.pieces : thought.had[one] - had;
        }
        return many;
    }

    // ---- in deed

    public int putUp(int thing) {
        if (!house.hasThing(thing)) {
            return BAD;
        }
        if (house.number(thing, OWNER) >= 0 || house.number(thing, LOST) != 0) {
            return STATE;
        }
        thought.begin(house);
        thought.considers(thing);
        int winner = thought.winner();
        if (winner == PIECES) {
            house.become(thing, LOST, 1);
            house.become(thing, MISSED, 0);
            led[BROKEN]++;
        } else if (winner >= 0) {
            house.become(thing, OWNER, winner);
            led[SOLD]++;
        }
        return winner;
    }

    public int loses(int thing) {
        if (!house.hasThing(thing)) {
            return BAD;
        }
        int owner = house.number(thing, OWNER);
        if (!house.hasBidder(owner) || house.number(thing, LOST) != 0) {
            return STATE;
        }
        thought.begin(house);
        int would = thought.misses(owner, house.number(thing, KIND), thought.had[owner] - 1);
        int most = house.number(owner, LIFE) + house.number(owner, HEIRS);
        int missed = Math.min(would, most);
        house.become(thing, LOST, 1);
        house.become(thing, MISSED, missed);
        led[GONE]++;
        return missed;
    }

    public int slip(int bidder, int how) {
        if (!house.hasBidder(bidder) || how < 0 || how > 1) {
            return BAD;
        }
        int was = house.number(bidder, SLIPS);
        house.become(bidder, SLIPS, how);
        led[EXAMINED] += how;
        return was;
    }

    public int year() {
        house.yearPasses();
        led[PAST]++;
        return Integer.bitCount(house.missedBits());
    }

    public int led(int what) {
        return what < 0 || what >= LEDS ? BAD : led[what];
    }

    public int image() {
        image.takes(house, led);
        return led[PAST];
    }

    public int back() {
        if (!image.isThere) {
            return STATE;
        }
        image.laysBack(house, led);
        return led[PAST];
    }

    public int undo() {
        return changes.behind == 0 ? STATE : changes.unmake(house);
    }

    public int redo() {
        return changes.ahead == 0 ? STATE : changes.remake(house);
    }

    // ---- acts, shelves

    public int body(int kind) {
        if (kind < 0 || kind >= Lots.LOT_KINDS) {
            return BAD;
        }
        return lots.isFull() ? FULL : lots.add(kind);
    }

    public int act(int body, int act, int x) {
        return lots.acts(body, act, x);
    }

    public int trace(int i) {
        return lots.traced(i);
    }

    public int keep(int shelf, int body) {
        if (!isShelf(shelf) || (body != -1 && !lots.has(body))) {
            return BAD;
        }
        if (body < 0) {
            shelves[shelf].holdNothing();
        } else {
            shelves[shelf].holdLot(body);
        }
        return 1;
    }

    public int row(int shelf, int sort, int n) {
        if (!isShelf(shelf) || sort < 0 || sort > Shelf.BOOLEANS || n > ROW) {
            return BAD;
        }
        if (n < 0) {
            return NO_SIZE;
        }
        shelves[shelf].holdRow(sort, n);
        return 1;
    }

    public int put(int shelf, int i, long v) {
        int refused = refusesElement(shelf, i);
        if (refused != 0) {
            return refused;
        }
        shelves[shelf].lay(i, v);
        return 1;
    }

    public long element(int shelf, int i) {
        return refusesElement(shelf, i) != 0 ? Long.MIN_VALUE : shelves[shelf].at(i);
    }

    public int shift(int shelf, int i, int other, int j, int n) {
        if (!isShelf(shelf) || !isShelf(other)) {
            return BAD;
        }
        Shelf from = shelves[shelf];
        Shelf to = shelves[other];
        if (from.holds == Shelf.NOTHING || to.holds == Shelf.NOTHING) {
            return NOTHING_THERE;
        }
        if (from.holds != Shelf.A_ROW || to.holds != Shelf.A_ROW || from.sort != to.sort) {
            return OTHER_KIND;
        }
        if (!from.hasRun(i, n) || !to.hasRun(j, n)) {
            return NO_PLACE;
        }
        System.arraycopy(from.row, i, to.row, j, n);
        return n;
    }

    public int taken(int shelf, int k) {
        if (!isShelf(shelf) || k < 0 || k >= Lots.LOT_KINDS) {
            return BAD;
        }
        Shelf from = shelves[shelf];
        if (from.holds == Shelf.NOTHING) {
            return NOTHING_THERE;
        }
        if (from.holds != Shelf.A_LOT) {
            return OTHER_KIND;
        }
        int kind = lots.kindOf(from.lot);
        return Lots.isUnder(kind, k) ? kind : OTHER_KIND;
    }

    public int count(int what) {
        switch (what) {
            case 0: return house.things;
            case 1: return house.bidders;
            case 2: return law.fed;
            case 3: return changes.behind;
            case 4: return lots.kept;
            case 5: return lots.ran;
            default: return BAD;
        }
    }

    private static boolean isWithin(int what, int v) {
        return v >= 0 && v <= MOST[what];
    }

    private boolean mayBe(int what, int v) {
        return what == OWNER ? v == -1 || house.hasBidder(v) : isWithin(what, v);
    }

    private static boolean isShelf(int shelf) {
        return shelf >= 0 && shelf < SHELVES;
    }

    private static boolean areShelves(int ss) {
        return ss >= 0 && isShelf(ss / 10) && isShelf(ss % 10);
    }

    private boolean isPair(int bt) {
        return bt >= 0 && house.hasBidder(bt / 10) && house.hasThing(bt % 10);
    }

    private int refusesBoth(int ss) {
        int refused = shelves[ss / 10].refusesBytes();
        return refused != 0 ? refused : shelves[ss % 10].refusesBytes();
    }

    private int refusesElement(int shelf, int i) {
        if (!isShelf(shelf)) {
            return BAD;
        }
        if (shelves[shelf].holds == Shelf.NOTHING) {
            return NOTHING_THERE;
        }
        if (shelves[shelf].holds != Shelf.A_ROW) {
            return OTHER_KIND;
        }
        return shelves[shelf].hasRun(i, 1) ? 0 : NO_PLACE;
    }

    /** The numbers of THINGS and BIDDERS, by the numbers that mend() gives to what they are. */
    private static final class House {
        private static final int OF_THING = 4, OF_BIDDER = 9;

        private final int[] thingRow = new int[THINGS * OF_THING];
        private final int[] bidderRow = new int[BIDDERS * OF_BIDDER];
        private int things;
        private int bidders;

        boolean hasThing(int thing) {
            return thing >= 0 && thing < things;
        }

        boolean hasBidder(int bidder) {
            return bidder >= 0 && bidder < bidders;
        }

        boolean has(int one, int what) {
            if (what < 0 || what >= WHATS) {
                return false;
            }
            return what < CONSTANT ? hasThing(one) : hasBidder(one);
        }

        int number(int one, int what) {
            if (what >= 0 && what < CONSTANT && one >= 0 && one < things) {
                return thingRow[one * OF_THING + what];
            }
            if (what >= CONSTANT && what < WHATS && one >= 0 && one < bidders) {
                return bidderRow[one * OF_BIDDER + what - CONSTANT];
            }
            return 0;
        }

        void become(int one, int what, int v) {
            if (what >= 0 && what < CONSTANT && one >= 0 && one < things) {
                thingRow[one * OF_THING + what] = v;
            } else if (what >= CONSTANT && what < WHATS && one >= 0 && one < bidders) {
                bidderRow[one * OF_BIDDER + what - CONSTANT] = v;
            }
        }

        int addThing(int kind) {
            if (things >= THINGS) {
                return FULL;
            }
            int came = things;
            things++;
            become(came, KIND, kind);
            become(came, OWNER, -1);
            return came;
        }

        int addBidder(int constant, int life, int feigns) {
            if (bidders >= BIDDERS) {
                return FULL;
            }
            int came = bidders;
            bidders++;
            become(came, CONSTANT, constant);
            become(came, LIFE, life);
            become(came, FEIGNS, feigns);
            for (int kind = 0; kind < KINDS; kind++) {
                become(came, LOVE + kind, 5);
            }
            return came;
        }

        void copies(House other) {
            System.arraycopy(other.thingRow, 0, thingRow, 0, thingRow.length);
            System.arraycopy(other.bidderRow, 0, bidderRow, 0, bidderRow.length);
            things = other.things;
            bidders = other.bidders;
        }

        void yearPasses() {
            for (int thing = 0; thing < things; thing++) {
                become(thing, MISSED, Math.max(0, number(thing, MISSED) - 1));
            }
            for (int bidder = 0; bidder < bidders; bidder++) {
                int life = Math.max(0, number(bidder, LIFE) - 1);
                become(bidder, LIFE, life);
                if (life == 0) {
                    become(bidder, HEIRS, Math.max(0, number(bidder, HEIRS) - 1));
                }
            }
        }

        int missedBits() {
            int bits = 0;
            for (int thing = 0; thing < things; thing++) {
                if (number(thing, MISSED) > 0) {
                    bits |= 1 << thing;
                }
            }
            return bits;
        }

        int missedLongest() {
            int which = NOT;
            int longest = 0;
            for (int thing = 0; thing < things; thing++) {
                if (number(thing, MISSED) > longest) {
                    longest = number(thing, MISSED);
                    which = thing;
                }
            }
            return which;
        }
    }

    /**
     * THE TAPE and THE LAW. A text is turned once into steps for a stack: a number stands for
     * itself, -1 .. -6 for the NAMES, the negative of a sign for what it does.
     */
    private static final class Law {
        private static final int TAPE = 120, NESTED = 6, STEPS = 128, STACK = 64;
        private static final int NUMBER_DIGITS = 4, OPERAND = 5, COMPARED = 2;
        private static final int END = -';', NEGATE = '~', SKIP = -1000;
        private static final String NAMES = "clhvnm";

        private final int[] tape = new int[TAPE];
        private final int[] names = new int[6];
        private final int[] stack = new int[STACK];
        private int[] steps = new int[STEPS];
        private int[] draft = new int[STEPS];
        private int fed;
        private int place;
        private int drafted;
        private int length;
        private boolean isTold;

        boolean isTapeFull() {
            return fed >= TAPE;
        }

        int comes(int letter) {
            if (fed < TAPE) {
                tape[fed] = letter;
                fed++;
            }
            return fed;
        }

        int fromTape() {
            place = 0;
            drafted = 0;
            boolean isText = readLines();
            if (isText) {
                int[] old = steps;
                steps = draft;
                draft = old;
                length = drafted;
                isTold = true;
            }
            fed = 0;
            return isText ? 1 : -100 - place;
        }

        private boolean readLines() {
            for (int i = 0; i <= TAPE; i++) {
                if (!readLine()) {
                    return false;
                }
                if (place == fed) {
                    return true;
                }
                if (!takes(';')) {
                    return false;
                }
            }
            return false;
        }

        private boolean readLine() {
            if (!readRank(0, 0)) {
                return false;
            }
            if (!takes('?')) {
                emit(END);
                return true;
            }
            int skip = drafted;
            emit(SKIP);
            if (!readRank(0, 0)) {
                return false;
            }
            emit(END);
            if (skip < draft.length) {
                draft[skip] = SKIP - drafted;
            }
            return true;
        }

        /** Ranks 0 .. 4 are E, A, B, S, P; each is made of the next one, the last of O. */
        private boolean readRank(int rank, int open) {
            if (rank >= OPERAND) {
                return readOperand(open);
            }
            if (!readRank(rank + 1, open)) {
                return false;
            }
            int most = rank == COMPARED ? 1 : TAPE;
            for (int i = 0; i < most && rankOf(next()) == rank; i++) {
                int sign = next();
                place++;
                if (!readRank(rank + 1, open)) {
                    return false;
                }
                emit(-sign);
            }
            return true;
        }

        private boolean readOperand(int open) {
            int next = next();
            if (isDigit(next)) {
                return readNumber();
            }
            int name = next < 0 ? -1 : NAMES.indexOf((char) next);
            if (name >= 0) {
                place++;
                emit(-1 - name);
                return true;
            }
            if (open >= NESTED) {
                return false;
            }
            if (takes('(')) {
                return readRank(0, open + 1) && takes(')');
            }
            if (!takes('!') && !takes('-')) {
                return false;
            }
            if (!readOperand(open + 1)) {
                return false;
            }
            emit(next == '-' ? -NEGATE : -'!');
            return true;
        }

        private boolean readNumber() {
            int number = 0;
            for (int i = 0; i < NUMBER_DIGITS && isDigit(next()); i++) {
                number = number * 10 + next() - '0';
                place++;
            }
            emit(number);
            return true;
        }

        private static boolean isDigit(int letter) {
            return letter >= '0' && letter <= '9';
        }

        private static int rankOf(int sign) {
            switch (sign) {
                case '|': return 0;
                case '&': return 1;
                case '<': case '=': case '>': return COMPARED;
                case '+': case '-': return 3;
                case '*': case '/': case '%': return 4;
                default: return -1;
            }
        }

        private int next() {
            return place < fed && place < TAPE ? tape[place] : -1;
        }

        private boolean takes(int letter) {
            if (next() != letter) {
                return false;
            }
            place++;
            return true;
        }

        private void emit(int step) {
            if (drafted < draft.length) {
                draft[drafted] = step;
                drafted++;
            }
        }

        /** What THE LAW gives, not yet held within 0 .. 99; no step can lack its numbers. */
        int gives(int c, int l, int h, int v, int n, int m) {
            if (!isTold) {
                return Math.min(c * v, l + h) - 5 * n;
            }
            names[0] = c;
            names[1] = l;
            names[2] = h;
            names[3] = v;
            names[4] = n;
            names[5] = m;
            int top = 0;
            for (int at = 0; at < length; at++) {
                int step = steps[at];
                if (step >= -names.length) {
                    if (top >= STACK) {
                        return 0;
                    }
                    stack[top] = step >= 0 ? step : names[-1 - step];
                    top++;
                    continue;
                }
                if (top < 1) {
                    return 0;
                }
                int right = stack[top - 1];
                if (step == END) {
                    return right;
                }
                if (step <= SKIP) {
                    top--;
                    at = right != 0 ? at : Math.max(at, SKIP - step - 1);
                } else if (step == -'!' || step == -NEGATE) {
                    stack[top - 1] = step == -NEGATE ? -right : right == 0 ? 1 : 0;
                } else if (top < 2) {
                    return 0;
                } else {
                    top--;
                    stack[top - 1] = worked(-step, stack[top - 1], right);
                }
            }
            return 0;
        }

        private static int worked(int sign, int left, int right) {
            switch (sign) {
                case '|': return left != 0 || right != 0 ? 1 : 0;
                case '&': return left != 0 && right != 0 ? 1 : 0;
                case '<': return left < right ? 1 : 0;
                case '=': return left == right ? 1 : 0;
                case '>': return left > right ? 1 : 0;
                case '+': return left + right;
                case '-': return left - right;
                case '*': return left * right;
                case '/': return right == 0 ? 0 : left / right;
                case '%': return right == 0 ? 0 : left % right;
                default: return 0;
            }
        }
    }

    /**
     * Sales in thought, on a copy of the house. Of THINGS only what sales change is led: which are
     * open (of the house, not LOST) and how many each BIDDER has; no sale changes whom one misses.
     */
    private static final class Thought {
        private static final int HAD = THINGS + 1, NOT_YET = -1;

        private final House house = new House();
        private final Law law;
        private final int[] had = new int[BIDDERS];
        private final int[] mourned = new int[BIDDERS];
        // what THE LAW gave by BIDDER, KIND and how many he has: many sales ask for the same
        private final int[] known = new int[BIDDERS * KINDS * HAD];
        private final int[] would = new int[BIDDERS];
        private final int[] won = new int[CATALOGUE];
        private int listed;
        private int open;
        private int slipped;
        private int sold;
        private int pieces;

        Thought(Law law) {
            this.law = law;
        }

        void begin(House now) {
            house.copies(now);
            Arrays.fill(known, NOT_YET);
            restarts();
        }

        void restarts() {
            open = 0;
            slipped = 0;
            sold = 0;
            pieces = 0;
            Arrays.fill(had, 0);
            Arrays.fill(mourned, 0);
            for (int thing = 0; thing < house.things; thing++) {
                int owner = house.number(thing, OWNER);
                boolean isLost = house.number(thing, LOST) != 0;
                if (!house.hasBidder(owner)) {
                    open |= isLost ? 0 : 1 << thing;
                } else if (!isLost) {
                    had[owner]++;
                } else if (house.number(thing, MISSED) > 0) {
                    mourned[owner]++;
                }
            }
        }

        /** One number of a BIDDER becomes another in thought, and what he would miss is new. */
        void varies(int bidder, int what, int v) {
            house.become(bidder, what, v);
            if (house.hasBidder(bidder)) {
                for (int i = 0; i < KINDS * HAD; i++) {
                    known[bidder * KINDS * HAD + i] = NOT_YET;
                }
            }
            restarts();
        }

        int misses(int bidder, int kind, int n) {
            if (!house.hasBidder(bidder) || kind < 0 || kind >= KINDS || n < 0 || n >= HAD) {
                return 0;
            }
            int place = (bidder * KINDS + kind) * HAD + n;
            if (known[place] == NOT_YET) {
                int given = law.gives(house.number(bidder, CONSTANT), house.number(bidder, LIFE),
                        house.number(bidder, HEIRS), house.number(bidder, LOVE + kind),
                        n, mourned[bidder]);
                known[place] = Math.max(0, Math.min(YEARS, given));
            }
            return known[place];
        }

        /** From now on bid() and winner() are about this THING. */
        void considers(int thing) {
            int kind = house.number(thing, KIND);
            for (int bidder = 0; bidder < house.bidders; bidder++) {
                would[bidder] = misses(bidder, kind, had[bidder]);
            }
        }

        int bid(int bidder) {
            int feigns = house.number(bidder, FEIGNS);
            if (house.number(bidder, SLIPS) != 0 || (slipped >> bidder & 1) != 0) {
                return feigns > 0 ? 0 : would[bidder];
            }
            return Math.min(YEARS, would[bidder] + feigns);
        }

        int winner() {
            int most = 0;
            int who = NOT;
            for (int bidder = 0; bidder < house.bidders; bidder++) {
                int bid = bid(bidder);
                if (bid > most) {
                    most = bid;
                    who = bidder;
                } else if (bid == most && bid > 0) {
                    who = PIECES;
                }
            }
            return who;
        }

        int sellsOne(int thing) {
            if ((open >> thing & 1) == 0) {
                return PASSED;
            }
            considers(thing);
            int who = winner();
            if (who == PIECES) {
                pieces++;
                open &= ~(1 << thing);
            } else if (who >= 0) {
                sold++;
                had[who]++;
                open &= ~(1 << thing);
            }
            return who;
        }

        /** Takes back what sellsOne(thing) did and answered. */
        void unsellsOne(int thing, int who) {
            if (who == PASSED || who == NOT) {
                return;
            }
            open |= 1 << thing;
            if (who == PIECES) {
                pieces--;
            } else if (house.hasBidder(who)) {
                sold--;
                had[who]--;
            }
        }

        void sellsAll(Shelf catalogue) {
            listed = lengthOf(catalogue);
            for (int k = 0; k < listed; k++) {
                won[k] = sellsOne((int) catalogue.at(k));
            }
        }

        /** Sells with a draw ahead of each THING; answers the z to go on with. */
        int sellsByDraws(Shelf catalogue, int seed, int below) {
            listed = lengthOf(catalogue);
            int z = seed;
            for (int k = 0; k < listed; k++) {
                z = z * 1103515245 + 12345;
                if (house.bidders > 0 && (z >>> 16) % 12 < below) {
                    // that sale is the whole CATALOGUE's: who is drawn stays examined to its end
                    slipped |= 1 << (z >>> 8) % house.bidders;
                }
                won[k] = sellsOne((int) catalogue.at(k));
            }
            return z;
        }

        private int lengthOf(Shelf catalogue) {
            int most = Math.min(CATALOGUE, catalogue.length);
            for (int k = 0; k < most; k++) {
                if (!house.hasThing((int) catalogue.at(k))) {
                    return k;
                }
            }
            return most;
        }

        int firstWrong(Shelf catalogue, Shelf book) {
            listed = lengthOf(catalogue);
            for (int k = 0; k < book.length; k++) {
                if (k >= listed) {
                    return k;
                }
                int who = sellsOne((int) catalogue.at(k));
                // what stays may be told by NOT itself, or by UNKNOWN, which is never wrong
                if (book.at(k) != UNKNOWN && book.at(k) != who) {
                    return k;
                }
            }
            return NOT;
        }

        /** Whether the OWNER of the first would miss the second longer, and may change them. */
        boolean wouldChange(int own, int others) {
            int owner = house.number(own, OWNER);
            int other = house.number(others, OWNER);
            if (!house.hasBidder(owner) || !house.hasBidder(other) || owner == other
                    || house.number(own, LOST) != 0 || house.number(others, LOST) != 0) {
                return false;
            }
            int less = had[owner] - 1;
            return misses(owner, house.number(others, KIND), less)
                    > misses(owner, house.number(own, KIND), less);
        }
    }

    /** What is found by going through ways: orders, who is examined, turns. */
    private static final class Ways {
        private static final int ORDERED = 5, TURNS = 5, MOVES = 3;
        private static final int FEIGN_MORE = 0, EXAMINE = 1;
        private static final int[] MOVE_ORDER = {2, 0, 1};

        private final Thought thought;
        private final int[] order = new int[ORDERED];
        private final int[] best = new int[ORDERED];
        private int most;
        private int ordered;
        private int firstMove;

        Ways(Thought thought) {
            this.thought = thought;
        }

        /** The most THINGS that one has behind an order of all that is open; best is the order. */
        int orders(int one, int many) {
            most = -1;
            ordered = Math.min(many, ORDERED);
            tryOrder(one, 0, 0);
            return most;
        }

        private void tryOrder(int one, int k, int done) {
            if (k >= ordered) {
                // orders come as by numbers, so a like one behind is not taken
                if (thought.had[one] > most) {
                    most = thought.had[one];
                    System.arraycopy(order, 0, best, 0, ORDERED);
                }
                return;
            }
            int left = thought.open & ~done;
            for (int thing = 0; thing < THINGS; thing++) {
                if ((left >> thing & 1) != 0) {
                    order[k] = thing;
                    int who = thought.sellsOne(thing);
                    tryOrder(one, k + 1, done | 1 << thing);
                    thought.unsellsOne(thing, who);
                }
            }
        }

        /** Bits of the fewest who are examined besides so that one wins; NOT. */
        int fewestExamined(int one) {
            int which = NOT;
            int fewest = BIDDERS + 1;
            int all = 1 << thought.house.bidders;
            for (int bits = 0; bits < all; bits++) {
                thought.slipped = bits;
                if (Integer.bitCount(bits) < fewest && thought.winner() == one) {
                    fewest = Integer.bitCount(bits);
                    which = bits;
                }
            }
            return which;
        }

        /** How it ends for the one; what he does first is in firstMove. */
        int turns(int one, int other, int n) {
            int outcome = -2;
            for (int i = 0; i < MOVES; i++) {
                int found = moved(one, other, n - 1, MOVE_ORDER[i]);
                if (found > outcome) {
                    outcome = found;
                    firstMove = MOVE_ORDER[i];
                }
            }
            return outcome;
        }

        /** How it ends for him whose turn it is, with n turns left. */
        private int outcome(int mover, int rival, int n) {
            if (n <= 0) {
                int who = thought.winner();
                return who == mover ? 1 : who == rival ? -1 : 0;
            }
            int found = -1;
            for (int i = 0; i < MOVES && found < 1; i++) {
                found = Math.max(found, moved(mover, rival, n - 1, MOVE_ORDER[i]));
            }
            return found;
        }

        private int moved(int mover, int rival, int left, int move) {
            House house = thought.house;
            int feigned = house.number(mover, FEIGNS);
            int slipped = house.number(rival, SLIPS);
            if (move == FEIGN_MORE) {
                house.become(mover, FEIGNS, Math.min(MOST[FEIGNS], feigned + 1));
            } else if (move == EXAMINE) {
                house.become(rival, SLIPS, 1);
            }
            int found = -outcome(rival, mover, left);
            house.become(mover, FEIGNS, feigned);
            house.become(rival, SLIPS, slipped);
            return found;
        }
    }

    /**
     * DEALT. One number holds the years and, below them, a digit for each BIDDER's THING, the
     * first BIDDER's highest, larger for a lower THING and 0 for none: the greatest is the answer.
     */
    private static final class Dealing {
        private static final int NONE = 8, DIGIT = 9;
        private static final long[] WEIGHT = {531441, 59049, 6561, 729, 81, 9, 1};
        private static final long YEAR = 4782969;

        private final long[] best = new long[1 << THINGS];
        private final long[] worth = new long[THINGS];
        private long answer;

        void deals(Thought thought) {
            int open = thought.open & best.length - 1;
            Arrays.fill(best, 0);
            for (int bidder = thought.house.bidders - 1; bidder >= 0; bidder--) {
                weigh(thought, bidder);
                // from all things down: a smaller set still tells of the BIDDERS behind alone
                for (int set = open; set > 0; set--) {
                    if ((set & ~open) == 0) {
                        best[set] = bestOf(set);
                    }
                }
            }
            answer = best[open];
        }

        private void weigh(Thought thought, int bidder) {
            for (int thing = 0; thing < thought.house.things; thing++) {
                int kind = thought.house.number(thing, KIND);
                long years = thought.misses(bidder, kind, thought.had[bidder]);
                worth[thing] = years * YEAR + (NONE - thing) * WEIGHT[bidder];
            }
        }

        private long bestOf(int set) {
            long found = best[set];
            for (int thing = 0; thing < THINGS; thing++) {
                if ((set >> thing & 1) != 0) {
                    found = Math.max(found, worth[thing] + best[set & ~(1 << thing)]);
                }
            }
            return found;
        }

        int total() {
            return (int) (answer / YEAR);
        }

        int share(int bidder) {
            return NONE - (int) (answer / WEIGHT[bidder] % DIGIT);
        }
    }

    /** CHANGES that may be UNDONE (behind), and DONE AGAIN (ahead), one row for both. */
    private static final class Changes {
        private static final int KEPT = 40, OF_CHANGE = 4;

        private final int[] row = new int[KEPT * OF_CHANGE];
        private int behind;
        private int ahead;

        void came(int number, int what, int was, int is) {
            ahead = 0;
            if (behind >= KEPT) {
                System.arraycopy(row, OF_CHANGE, row, 0, (KEPT - 1) * OF_CHANGE);
                behind = KEPT - 1;
            }
            int place = behind * OF_CHANGE;
            row[place] = number;
            row[place + 1] = what;
            row[place + 2] = was;
            row[place + 3] = is;
            behind++;
        }

        int unmake(House house) {
            if (behind > 0) {
                behind--;
                ahead++;
                int place = behind * OF_CHANGE;
                house.become(row[place], row[place + 1], row[place + 2]);
            }
            return behind;
        }

        int remake(House house) {
            if (ahead > 0 && behind < KEPT) {
                int place = behind * OF_CHANGE;
                house.become(row[place], row[place + 1], row[place + 3]);
                behind++;
                ahead--;
            }
            return ahead;
        }
    }

    /** AN IMAGE: what deeds change. */
    private static final class Image {
        private final House was = new House();
        private final int[] led = new int[LEDS];
        private boolean isThere;

        void takes(House house, int[] ledNow) {
            was.copies(house);
            System.arraycopy(ledNow, 0, led, 0, LEDS);
            isThere = true;
        }

        void laysBack(House house, int[] ledNow) {
            for (int thing = 0; thing < was.things; thing++) {
                house.become(thing, OWNER, was.number(thing, OWNER));
                house.become(thing, LOST, was.number(thing, LOST));
                house.become(thing, MISSED, was.number(thing, MISSED));
            }
            for (int bidder = 0; bidder < was.bidders; bidder++) {
                house.become(bidder, SLIPS, was.number(bidder, SLIPS));
                house.become(bidder, LIFE, was.number(bidder, LIFE));
                house.become(bidder, HEIRS, was.number(bidder, HEIRS));
            }
            System.arraycopy(led, 0, ledNow, 0, LEDS);
        }
    }

    /** LOTS, their acts and THE TRACE. */
    private static final class Lots {
        private static final int LOT_KINDS = 8, BODIES = 50, TRACED = 24, ACTS = 4, LEVELS = 40;
        private static final int BIDS = 0, MISSES = 1, LOSES = 2, TELLS = 3;
        private static final int[] ABOVE = {-1, 0, 0, 2, 1, 3, 0, 4};
        // a KIND's own bodies of bids, misses, loses, tells; 0: it has none, the KIND above counts
        private static final int[] OWN = {
            1, 10, 11, 2,
            20, 0, 0, 0,
            0, 30, 0, 0,
            0, 41, 40, 0,
            0, 0, 50, 0,
            0, 0, 0, 60,
            70, 0, 0, 0,
            0, 80, 0, 81,
        };

        private final int[] kinds = new int[BODIES];
        private final int[] trace = new int[TRACED];
        private int kept;
        private int ran;
        private int self;

        boolean isFull() {
            return kept >= BODIES;
        }

        boolean has(int lot) {
            return lot >= 0 && lot < kept;
        }

        int add(int kind) {
            int came = kept;
            if (came < BODIES) {
                kinds[came] = kind;
                kept++;
            }
            return came;
        }

        int kindOf(int lot) {
            return has(lot) ? kinds[lot] : -1;
        }

        static boolean isUnder(int kind, int top) {
            int at = kind;
            for (int i = 0; i < LOT_KINDS && at >= 0 && at < LOT_KINDS; i++) {
                if (at == top) {
                    return true;
                }
                at = ABOVE[at];
            }
            return false;
        }

        int traced(int i) {
            return i < 0 || i >= Math.min(ran, TRACED) ? BAD : trace[i];
        }

        int acts(int lot, int act, int x) {
            ran = 0;
            if (!has(lot) || act < 0 || act >= ACTS) {
                return 0;
            }
            self = lot;
            return runs(kinds[lot], act, x, 0);
        }

        /** The body of an act of a KIND, or of the next KIND above that has one. */
        private int runs(int kind, int act, int x, int level) {
            int at = kind;
            for (int i = 0; i < LOT_KINDS && at >= 0 && at < LOT_KINDS; i++) {
                int body = OWN[at * ACTS + act];
                if (body != 0) {
                    return level < LEVELS ? runBody(body, ABOVE[at], x, level + 1) : 0;
                }
                at = ABOVE[at];
            }
            return 0;
        }

        private int own(int act, int x, int level) {
            return runs(kinds[self], act, x, level);
        }

        private int runBody(int body, int above, int x, int level) {
            if (ran < TRACED) {
                trace[ran] = body;
            }
            ran++;
            switch (body) {
                case 1: return x + self;
                case 2: return own(MISSES, x, level) - own(LOSES, 1, level);
                case 10: return own(BIDS, x, level) * 2;
                case 11: return x ^ self;
                case 20: return runs(above, BIDS, x, level) + 3;
                case 30: return -runs(above, MISSES, x, level);
                case 40: return runs(above, LOSES, x, level) * 3;
                case 41: return runs(above, MISSES, x + 1, level);
                case 50: return runs(above, LOSES, x, level) - own(BIDS, 2, level);
                case 60: return runs(above, TELLS, x, level) ^ 5;
                case 70: return runs(above, BIDS, x, level) * 2;
                case 80: return runs(above, MISSES, x, level) + own(LOSES, 2, level);
                case 81: return runs(above, TELLS, x, level) - 1;
                default: return 0;
            }
        }
    }

    /** A SHELF: nothing, a LOT, or a ROW, whose elements are longs that keep to their sort. */
    private static final class Shelf {
        private static final int NOTHING = 0, A_LOT = 1, A_ROW = 2;
        private static final int BYTES = 0, SHORTS = 1, INTS = 2, LONGS = 3, BOOLEANS = 4;

        private final long[] row = new long[ROW];
        private int holds;
        private int lot;
        private int sort;
        private int length;

        void holdNothing() {
            holds = NOTHING;
            length = 0;
        }

        void holdLot(int body) {
            holds = A_LOT;
            lot = body;
            length = 0;
        }

        void holdRow(int sortOfRow, int n) {
            holds = A_ROW;
            sort = sortOfRow;
            length = Math.max(0, Math.min(ROW, n));
            Arrays.fill(row, 0);
        }

        boolean holdsBytes() {
            return holds == A_ROW && sort == BYTES;
        }

        int refusesBytes() {
            if (holds == NOTHING) {
                return NOTHING_THERE;
            }
            return holdsBytes() ? 0 : OTHER_KIND;
        }

        boolean hasRun(int from, int n) {
            return from >= 0 && n >= 0 && from <= length && n <= length - from;
        }

        long at(int i) {
            return hasRun(i, 1) ? row[i] : 0;
        }

        void lay(int i, long v) {
            if (hasRun(i, 1)) {
                row[i] = kept(v);
            }
        }

        private long kept(long v) {
            switch (sort) {
                case BYTES: return (byte) v;
                case SHORTS: return (short) v;
                case INTS: return (int) v;
                case LONGS: return v;
                default: return v != 0 ? 1 : 0;
            }
        }
    }
}
