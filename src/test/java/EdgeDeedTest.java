import java.io.IOException;

/** The edges of promises 24 to 32: selling, losing, examining, years in deed, images, changes. */
public final class EdgeDeedTest extends Edges {
    private EdgeDeedTest(String[] args) throws IOException {
        super(args);
    }

    public static void main(String[] args) throws IOException {
        EdgeDeedTest test = new EdgeDeedTest(args);
        test.putUp();
        test.putUpThatStays();
        test.putUpInPieces();
        test.loses();
        test.losesForYears();
        test.losesWithoutIt();
        test.slips();
        test.yearsDown();
        test.yearsOfHeirs();
        test.led();
        test.noImage();
        test.imagesOfLittle();
        test.imageOfAll();
        test.imagesAnew();
        test.sameNumbers();
        test.fortyChanges();
        test.changesBehind();
        test.changesOfAll();
        test.deedsAreNone();
        test.check.end("EdgeDeedTest");
    }

    private void dueThing(int thing, int owner, int lost, int missed) {
        due("OWNER of " + thing, owner, x.of(thing, 1));
        due("LOST of " + thing, lost, x.of(thing, 2));
        due("MISSED of " + thing, missed, x.of(thing, 3));
    }

    private void dueLed(int... want) {
        for (int what = 0; what < want.length; what++) {
            due("led(" + what + ")", want[what], x.led(what));
        }
    }

    private void putUp() {
        says("A THING is put up: who wins it (NOT, 8 as told). BAD; STATE: it is not the house's, or"
                + " LOST.");
        house(8, 1, 2, 3, 4, 5, 6, 7);
        outside("putUp(_)", 0, 7, BAD, v -> x.putUp(v));
        due("the last wins the last", 6, x.putUp(7));
        dueThing(7, 6, 0, 0);
        due("it is not the house's", STATE, x.putUp(7));
        x.mend(7, 2, 1);
        due("nor that, and LOST", STATE, x.putUp(7));
        x.mend(7, 1, -1);
        due("the house's, but LOST", STATE, x.putUp(7));
        x.mend(7, 2, 0);
        due("the house's again", 6, x.putUp(7));
        x.mend(0, 1, 0);
        due("the first BIDDER's", STATE, x.putUp(0));
        dueLed(2, 0, 0, 0, 0);
        says("who bids most wins it (OWNER)");
        x.mend(0, 5, 8);
        x.mend(1, 3, 5);
        due("the first wins", 0, x.putUp(1));
        dueThing(1, 0, 0, 5);
        house(1);
        outside("putUp(_) of one THING", 0, 0, BAD, v -> x.putUp(v));
        x = new MissedSale();
        dueOf("putUp(_) of none", BAD, v -> x.putUp(v), -1, 0, 1);
    }

    private void putUpThatStays() {
        says("a bid of 0 wins nothing: it stays");
        house(1);
        x.mend(0, 3, 4);
        due("nobody is there", NOT, x.putUp(0));
        dueThing(0, -1, 0, 4);
        x.bidder(0, 0);
        x.bidder(0, 0);
        due("two bid 0", NOT, x.putUp(0));
        dueThing(0, -1, 0, 4);
        x.mend(1, 5, 50);
        x.mend(1, 7, 1);
        x.slip(1, 1);
        due("he is found out", NOT, x.putUp(0));
        dueThing(0, -1, 0, 4);
        dueLed(0, 0, 0, 1, 0);
        x.slip(1, 0);
        due("put up again", 1, x.putUp(0));
        dueLed(1, 0, 0, 1, 0);
    }

    private void putUpInPieces() {
        says("two or more of the same most: it goes to pieces: it is LOST, MISSED 0.");
        house(2, 1, 1);
        x.mend(0, 3, 99);
        due("1 to 1", 8, x.putUp(0));
        dueThing(0, -1, 1, 0);
        due("it is LOST", STATE, x.putUp(0));
        due("nobody loses it", STATE, x.loses(0));
        x.bidder(0, 1);
        due("three", 8, x.putUp(1));
        dueThing(1, -1, 1, 0);
        dueLed(0, 2, 0, 0, 0);
        due("none is MISSED", 0, x.year());
    }

    private void loses() {
        says("A THING is LOST by its OWNER: MISSED. BAD; STATE: it is the house's, or LOST.");
        house(8, 9, 8, 7, 6, 5, 4, 3);
        outside("loses(_)", 0, 7, BAD, v -> x.loses(v));
        dueOf("the house's, loses(_)", STATE, v -> x.loses(v), 0, 7);
        x.mend(7, 1, 6);
        due("the last BIDDER loses the last", 3, x.loses(7));
        dueThing(7, 6, 1, 3);
        due("it is LOST", STATE, x.loses(7));
        dueThing(7, 6, 1, 3);
        x.mend(7, 1, -1);
        due("LOST, and the house's", STATE, x.loses(7));
        x.mend(0, 1, 0);
        due("the first loses the first", 9, x.loses(0));
        dueLed(0, 0, 2, 0, 0);
        x.mend(0, 2, 0);
        due("it was found, and is LOST again", 9, x.loses(0));
        dueLed(0, 0, 3, 0, 0);
        x = new MissedSale();
        dueOf("loses(_) of none", BAD, v -> x.loses(v), -1, 0, 1);
    }

    private void losesForYears() {
        says("MISSED for so many years as he would miss it then (without it), no more than LIFE and"
                + " HEIRS.");
        // what THE LAW gives, LIFE, HEIRS, MISSED
        int[][] ones = {{50, 50, 0, 50}, {50, 49, 0, 49}, {50, 51, 0, 50}, {50, 41, 9, 50},
            {50, 40, 9, 49}, {50, 42, 9, 50}, {50, 0, 9, 9}, {50, 0, 0, 0}, {0, 50, 9, 0},
            {99, 99, 9, 99}, {99, 90, 9, 99}, {99, 90, 8, 98}, {9999, 99, 0, 99}, {1, 0, 1, 1}};
        for (int[] one : ones) {
            house(1, one[1]);
            Check.law(x, "" + one[0]);
            x.mend(0, 6, one[2]);
            x.mend(0, 1, 0);
            x.mend(0, 7, 9);
            String told = one[0] + " by LIFE " + one[1] + ", HEIRS " + one[2];
            due(told, one[3], x.loses(0));
            dueThing(0, 0, 1, one[3]);
            dueLed(0, 0, 1, 0, 0);
        }
    }

    private void losesWithoutIt() {
        says("as he would miss it then (without it)");
        house(8, 99);
        Check.law(x, "n*10+m");
        for (int i = 0; i < 8; i++) {
            x.mend(i, 1, 0);
        }
        int missed = 0;
        for (int i = 0; i < 8; i++) {
            int want = 10 * (7 - i) + missed;
            due("the " + i + "-th of eight", want, x.loses(i));
            missed += want > 0 ? 1 : 0;
        }
        house(1, 99);
        x.mend(0, 1, 0);
        x.mend(0, 3, 50);
        Check.law(x, "m");
        due("MISSED 50 ahead of it", 0, x.loses(0));
        dueThing(0, 0, 1, 0);
    }

    private void slips() {
        says("One is examined (how 1), or no more (0): what it was. BAD.");
        house(0, 1, 2, 3, 4, 5, 6, 7);
        outside("slip(_, 1)", 0, 6, BAD, v -> x.slip(v, 1));
        outside("slip(_, 0)", 0, 6, BAD, v -> x.slip(v, 0));
        outside("slip(6, _)", 0, 1, BAD, v -> x.slip(6, v));
        dueLed(0, 0, 0, 0, 0);
        for (int b = 0; b < 7; b += 6) {
            due("no more, who was not", 0, x.slip(b, 0));
            due("examined", 0, x.slip(b, 1));
            due("SLIPS", 1, x.of(b, 8));
            due("examined, who was", 1, x.slip(b, 1));
            due("SLIPS", 1, x.of(b, 8));
            due("no more", 1, x.slip(b, 0));
            due("SLIPS", 0, x.of(b, 8));
        }
        says("examined (3: as they are told to be)");
        dueLed(0, 0, 0, 4, 0);
        x = new MissedSale();
        dueOf("slip(_, 1) of none", BAD, v -> x.slip(v, 1), -1, 0, 1);
    }

    private void yearsDown() {
        says("A YEAR: MISSED of each THING one less (0 at least)");
        house(8, 1);
        for (int i = 0; i < 8; i++) {
            x.mend(i, 2, 1);
            x.mend(i, 3, i < 7 ? i : 99);
        }
        for (int n = 1; n <= 9; n++) {
            due("are MISSED behind " + n, n < 7 ? 7 - n : 1, x.year());
            for (int i = 0; i < 8; i++) {
                due("MISSED of " + i, Math.max(0, (i < 7 ? i : 99) - n), x.of(i, 3));
            }
            due("led(4)", n, x.led(4));
        }
        says("A YEAR passes: how many THINGS are MISSED then.");
        house(8, 99);
        for (int i = 0; i < 8; i++) {
            x.mend(i, 1, 0);
            x.loses(i);
        }
        due("all eight", 8, x.year());
        x = new MissedSale();
        due("none is there", 0, x.year());
        due("a year all the same", 1, x.led(4));
    }

    private void yearsOfHeirs() {
        says("LIFE of each BIDDER one less (0 at least); of whom LIFE is 0 then HEIRS one less (0 at"
                + " least).");
        int[][] ones = {{0, 0}, {0, 9}, {1, 9}, {2, 1}, {3, 0}, {99, 9}, {1, 1}};
        x = new MissedSale();
        for (int b = 0; b < 7; b++) {
            x.bidder(0, ones[b][0]);
            x.mend(b, 6, ones[b][1]);
        }
        int[][] lives = {{0, 0, 0}, {0, 0, 0}, {0, 0, 0}, {1, 0, 0}, {2, 1, 0}, {98, 97, 96},
            {0, 0, 0}};
        int[][] heirs = {{0, 0, 0}, {8, 7, 6}, {8, 7, 6}, {1, 0, 0}, {0, 0, 0}, {9, 9, 9}, {0, 0, 0}};
        for (int n = 0; n < 3; n++) {
            x.year();
            for (int b = 0; b < 7; b++) {
                due("LIFE of " + b + " behind " + (n + 1), lives[b][n], x.of(b, 5));
                due("HEIRS of " + b + " behind " + (n + 1), heirs[b][n], x.of(b, 6));
            }
        }
        for (int n = 3; n < 11; n++) {
            x.year();
        }
        due("HEIRS 0 at least", 0, x.of(1, 6));
        due("LIFE 0 at least", 0, x.of(1, 5));
        due("the others' CONSTANT stays", 0, x.of(5, 4));
        due("LIFE behind 11", 88, x.of(5, 5));
    }

    private void led() {
        says("LED: sold (what 0), pieces (1), lost (2), examined (3: as they are told to be), years"
                + " (4). BAD.");
        house(8, 20, 20, 21);
        outside("led(_)", 0, 4, BAD, v -> x.led(v));
        for (int i = 0; i < 5; i++) {
            x.putUp(i);
        }
        x.mend(2, 5, 20);
        for (int i = 5; i < 8; i++) {
            x.putUp(i);
        }
        x.loses(0);
        x.loses(1);
        x.slip(0, 1);
        for (int i = 0; i < 6; i++) {
            x.year();
        }
        dueLed(5, 3, 2, 1, 6);
        x.putUp(0);
        x.putUp(9);
        x.loses(0);
        x.loses(9);
        x.slip(9, 1);
        x.slip(0, 2);
        dueLed(5, 3, 2, 1, 6);
        x.mend(0, 2, 0);
        x.mend(2, 8, 1);
        x.mend(2, 2, 1);
        x.undo();
        dueLed(5, 3, 2, 1, 6);
        outside("led(_)", 0, 4, BAD, v -> x.led(v));
    }

    private void noImage() {
        says("It is laid back (THINGS, BIDDERS that came since as they are): years. STATE: there is"
                + " none.");
        house(1, 5);
        due("there is none", STATE, x.back());
        x.putUp(0);
        x.year();
        due("there is none still", STATE, x.back());
        dueThing(0, 0, 0, 0);
        dueLed(1, 0, 0, 0, 1);
        due("AN IMAGE is kept", 1, x.image());
        due("now there is", 1, x.back());
        due("and stays", 1, x.back());
    }

    private void imagesOfLittle() {
        says("(THINGS, BIDDERS that came since as they are)");
        x = new MissedSale();
        due("of an empty house", 0, x.image());
        house(8, 3, 4, 5, 6, 7, 8, 9);
        x.image();
        MissedSale full = x;
        x = new MissedSale();
        x.image();
        for (int i = 0; i < 8; i++) {
            x.thing(0);
        }
        for (int i = 0; i < 7; i++) {
            x.bidder(9, 3 + i);
        }
        x.putUp(0);
        x.slip(1, 1);
        x.mend(0, 6, 4);
        x.year();
        x.loses(0);
        due("back to the empty house", 0, x.back());
        dueThing(0, 6, 1, 8);
        due("SLIPS of one who came since", 1, x.of(1, 8));
        due("LIFE of one who came since", 2, x.of(0, 5));
        due("HEIRS of one who came since", 4, x.of(0, 6));
        due("THINGS", 8, x.count(0));
        due("BIDDERS", 7, x.count(1));
        dueLed(0, 0, 0, 0, 0);
        x = full;
        due("the last wins the last", 6, x.putUp(7));
        x.loses(7);
        x.slip(6, 1);
        x.mend(6, 6, 9);
        x.year();
        due("back to the full house", 0, x.back());
        dueThing(7, -1, 0, 0);
        due("SLIPS of the last", 0, x.of(6, 8));
        due("LIFE of the last", 9, x.of(6, 5));
        due("HEIRS of the last", 0, x.of(6, 6));
    }

    private void imageOfAll() {
        says("AN IMAGE keeps OWNERS, LOST, MISSED of THINGS, SLIPS, LIFE, HEIRS of BIDDERS, what LED"
                + " tells.");
        house(3, 40, 50);
        x.mend(0, 1, 1);
        x.mend(1, 2, 1);
        x.mend(1, 3, 7);
        x.mend(1, 6, 5);
        x.slip(0, 1);
        x.year();
        due("years", 1, x.image());
        x.bidder(1, 99);
        int[] other = {2, 2, 0, 9, 8, 77, 6, 5, 0, 1, 2, 3, 4};
        for (int what = 0; what < 13; what++) {
            x.mend(what < 4 ? 1 : 0, what, other[what]);
        }
        x.mend(0, 1, 2);
        x.mend(1, 6, 9);
        x.slip(1, 1);
        x.year();
        x.putUp(2);
        x.loses(0);
        Check.law(x, "1");
        x.feed('7');
        x.body(0);
        bytes(0, 1, 2);
        due("years", 1, x.back());
        dueThing(0, 1, 0, 0);
        dueThing(1, -1, 1, 6);
        dueThing(2, -1, 0, 0);
        due("KIND is as it is", 2, x.of(1, 0));
        int[] want = {8, 39, 0, 5, 1, 1, 2, 3, 4};
        for (int what = 4; what < 13; what++) {
            due("of(0, " + what + ")", want[what - 4], x.of(0, what));
        }
        due("LIFE of the other", 49, x.of(1, 5));
        due("HEIRS of the other", 5, x.of(1, 6));
        due("SLIPS of the other", 0, x.of(1, 8));
        due("one who came since", 98, x.of(2, 5));
        dueLed(0, 0, 0, 1, 1);
        due("THE LAW is as it is", 1, x.years(12, 0));
        due("THE TAPE is as it is", 1, x.count(2));
        due("changes are as they are, 4 and 15", 19, x.count(3));
        due("BODIES are as they are", 1, x.count(4));
        due("SHELVES are as they are", 2, x.element(0, 1));
    }

    private void imagesAnew() {
        says("AN IMAGE is kept: years.");
        house(1, 40);
        due("of no years", 0, x.image());
        x.year();
        x.year();
        due("of two", 2, x.image());
        x.year();
        due("the latest counts", 2, x.back());
        due("LIFE", 38, x.of(0, 5));
        x.thing(0);
        due("of two once more", 2, x.image());
        x.putUp(1);
        due("back", 2, x.back());
        dueThing(1, -1, 0, 0);
    }

    private void sameNumbers() {
        says("CHANGES (all numbers of mend(); telling the same number is none)");
        house(1, 40);
        int[] same = {0, -1, 0, 0, 0, 40, 0, 0, 0, 5, 5, 5, 5};
        for (int what = 0; what < 13; what++) {
            due("mend(0, " + what + ", the same)", same[what], x.mend(0, what, same[what]));
        }
        due("no change came", 0, x.count(3));
        due("none may be UNDONE", STATE, x.undo());
        x.mend(0, 5, 41);
        x.undo();
        due("the same number", 40, x.mend(0, 5, 40));
        due("nor does it keep from redo()", 0, x.redo());
        due("LIFE", 41, x.of(0, 5));
        x.undo();
        due("a refused one", VOID, x.mend(0, 5, 100));
        due("nor does that", 0, x.redo());
    }

    private void fortyChanges() {
        says("40 at most are kept");
        for (int many : new int[] {0, 1, 39, 40, 41, 42, 80}) {
            house(1, 40);
            for (int i = 1; i <= many; i++) {
                x.mend(0, 3, i);
            }
            int kept = Math.min(40, many);
            due(many + " changes, count(3)", kept, x.count(3));
            for (int i = kept - 1; i >= 0; i--) {
                due(many + " changes, undo()", i, x.undo());
                due("MISSED", many - kept + i, x.of(0, 3));
            }
            says("UNDONE: how many may still be. STATE: none.");
            due("none is left", STATE, x.undo());
            due("MISSED", many - kept, x.of(0, 3));
            says("DONE AGAIN: how many may still be. STATE: none.");
            for (int i = kept - 1; i >= 0; i--) {
                due(many + " changes, redo()", i, x.redo());
                due("MISSED", many - i, x.of(0, 3));
            }
            due("none is left", STATE, x.redo());
            due("MISSED", many, x.of(0, 3));
            due("all may be UNDONE", kept, x.count(3));
        }
    }

    private void changesBehind() {
        says("DONE AGAIN (as long as no other came behind)");
        house(1, 40);
        for (int i = 1; i <= 40; i++) {
            x.mend(0, 3, i);
        }
        x.undo();
        x.undo();
        x.mend(0, 3, 77);
        due("another came", STATE, x.redo());
        due("count(3)", 39, x.count(3));
        x.mend(0, 3, 78);
        x.mend(0, 3, 79);
        due("40 at most", 40, x.count(3));
        int[] back = {78, 77, 38, 37};
        for (int i = 0; i < back.length; i++) {
            due("undo()", 39 - i, x.undo());
            due("MISSED", back[i], x.of(0, 3));
        }
        for (int i = 35; i >= 0; i--) {
            x.undo();
        }
        due("none is left", STATE, x.undo());
        due("the first went", 1, x.of(0, 3));
        due("one again", 39, x.redo());
        due("MISSED", 2, x.of(0, 3));
        due("one may be UNDONE", 1, x.count(3));
    }

    private void changesOfAll() {
        says("can be UNDONE, the latest first, and DONE AGAIN");
        house(8, 40, 40, 40, 40, 40, 40, 40);
        int[] was = {0, -1, 0, 0, 0, 40, 0, 0, 0, 5, 5, 5, 5};
        int[] is = {3, 6, 1, 99, 9, 99, 9, 9, 1, 9, 0, 9, 0};
        for (int what = 0; what < 13; what++) {
            x.mend(what < 4 ? 7 : 6, what, is[what]);
        }
        for (int what = 12; what >= 0; what--) {
            due("undo()", what, x.undo());
            due("what " + what, was[what], x.of(what < 4 ? 7 : 6, what));
            for (int ahead = 0; ahead < what; ahead++) {
                due("what " + ahead + " stays", is[ahead], x.of(ahead < 4 ? 7 : 6, ahead));
            }
        }
        due("undo()", STATE, x.undo());
        for (int what = 0; what < 13; what++) {
            due("redo()", 12 - what, x.redo());
            due("what " + what, is[what], x.of(what < 4 ? 7 : 6, what));
            due("the first one's stays", was[what], x.of(0, what));
        }
        due("redo()", STATE, x.redo());
    }

    private void deedsAreNone() {
        says("deeds are none (OWNER, LOST, MISSED, SLIPS, LIFE, HEIRS by them, too)");
        house(3, 40, 50);
        x.mend(0, 6, 3);
        x.undo();
        x.putUp(0);
        x.loses(0);
        x.slip(0, 1);
        x.year();
        x.image();
        x.back();
        x.thing(0);
        x.bidder(0, 0);
        bytes(0, 0, 0, 0);
        x.bidders(0, 0, 1);
        due("no change came", 0, x.count(3));
        due("none may be UNDONE", STATE, x.undo());
        due("nor did another come behind", 0, x.redo());
        due("HEIRS", 3, x.of(0, 6));
        due("undo()", 0, x.undo());
        due("HEIRS", 0, x.of(0, 6));
        dueThing(0, 1, 1, 49);
        due("LIFE", 39, x.of(0, 5));
        due("SLIPS", 1, x.of(0, 8));
        x.mend(1, 5, 60);
        x.year();
        due("LIFE", 59, x.of(1, 5));
        due("undo() behind a year", 0, x.undo());
        due("LIFE as it was ahead of the change", 49, x.of(1, 5));
        due("redo()", 0, x.redo());
        due("LIFE as it was told", 60, x.of(1, 5));
        dueLed(1, 0, 1, 1, 2);
    }
}
