/** Terms 1 and promises 1 to 11, sentence by sentence: at each bound, right inside it, right outside it. */
public final class TravellersBoundTest {
    private static final int BAD = Bounds.BAD, NO = Bounds.NO, FULL = Bounds.FULL, NONE = Bounds.NONE;
    private static final int NOTHING = Bounds.NOTHING, KIND = Bounds.KIND, MIN = Bounds.MIN, MAX = Bounds.MAX;
    private static final int TRAVELLER = 0, ROUNDER = 1, PADDER = 2, TENNER = 3, CLIMBER = 4, GHOST = 5;
    private static final Bounds b = new Bounds("TravellersBoundTest");

    public static void main(String[] args) {
        aNewObject();
        objectsByThemselves();
        eightAtMost();
        travellersNumbers();
        badAheadOfFull();
        firstFigures();
        toldRefused();
        latestSixClaims();
        claimRefused();
        costsWithoutText();
        costsHeld();
        costsRefused();
        plainAsks();
        rounderAsks();
        tennerAsks();
        padderAsks();
        padderAtLowAndHighLines();
        climberAsks();
        climberSinceItCame();
        climberSinceCaught();
        climberBut();
        ghostAsks();
        asksForRefused();
        worth();
        signsAboveZero();
        signsOfLastFigures();
        signsUnderTheLine();
        signsOfRowsAlike();
        notOfTheLastOfSix();
        kindsUnderOneAnother();
        asRefused();
        turns();
        set();
        dealBounds();
        dealRoom();
        dealDraws();
        seed();
        b.end(1, 11);
    }

    /** One of a kind whose costs no lot touches. */
    private static RoundFigures one(int kind, int need, int bent) {
        RoundFigures x = new RoundFigures();
        x.traveller(kind, need, bent);
        x.rule(1, 0);
        Bounds.tells(x, "cost n");
        return x;
    }

    // ---- promise 1

    private static void aNewObject() {
        b.says(1, "`RoundFigures()`: As told; no TRAVELLERS.");
        RoundFigures x = new RoundFigures();
        int[] first = {0, 0, 50, 1, 0, 0, 0, 0, 1};
        for (int what = 0; what < 9; what++) {
            b.due("count(" + what + ")", x.count(what), first[what]);
        }
        for (int what = 0; what < 4; what++) {
            b.due("coins(" + what + ")", x.coins(what), 0);
        }
        b.due("coins(4)", x.coins(4), NONE);
        b.due("told(0, 0)", x.told(0, 0), BAD);
        b.due("textTold(0, 0)", x.textTold(0, 0), BAD);
        b.due("trim(1)", x.trim(1), BAD);
        for (int key = 0; key < 3; key++) {
            b.due("why(" + key + ")", x.why(key), NONE);
        }
        for (int sheet = 0; sheet < 4; sheet++) {
            b.due("reads(" + sheet + ")", x.reads(sheet), NOTHING);
        }
        for (int slot = 0; slot < 5; slot++) {
            b.due("item(" + slot + ", 0)", x.item(slot, 0), NOTHING);
        }
        b.due("back()", x.back(), NO);
        b.due("check(1)", x.check(1), NO);
        b.due("fee()", x.fee(), 0);
    }

    private static void objectsByThemselves() {
        b.says(1, "As told; no TRAVELLERS.");
        Bounds.made(Bounds::full);
        Bounds.made(Bounds::some);
        RoundFigures x = new RoundFigures();
        b.due("behind others count(0)", x.count(0), 0);
        b.due("behind others count(5)", x.count(5), 0);
        b.due("behind others count(7)", x.count(7), 0);
        b.due("behind others back()", x.back(), NO);
        x.traveller(TRAVELLER, 9, 0);
        b.due("behind others costs(0, 0)", x.costs(0, 0), 9);
    }

    // ---- promise 2

    private static void eightAtMost() {
        b.says(2, "TRAVELLERS, 8 at most, numbered from 0");
        RoundFigures x = new RoundFigures();
        for (int i = 0; i < 8; i++) {
            b.due("told of the next one", x.told(i, 1), BAD);
            b.due("one more", x.traveller(i % 6, 10 + i, 20 + i), i);
            b.due("how many", x.count(0), i + 1);
        }
        for (int i = 0; i < 8; i++) {
            b.due("its own NEED", x.told(i, 1), 10 + i);
            b.due("its own BENT", x.told(i, 2), 20 + i);
            b.due("its own KIND", x.told(i, 0), i % 6);
        }
        b.due("the ninth", x.traveller(0, 1, 1), FULL);
        b.due("how many", x.count(0), 8);
        b.refused("the ninth", FULL, Bounds::full, y -> y.traveller(0, 1, 1));
    }

    private static void travellersNumbers() {
        b.says(2, "`int traveller(int kind, int need, int bent)`: One more TRAVELLER: its number. BAD; FULL.");
        for (int kind = 0; kind < 6; kind++) {
            RoundFigures x = new RoundFigures();
            b.due("kind " + kind, x.traveller(kind, 1, 1), 0);
            b.due("kind told", x.told(0, 0), kind);
        }
        for (int v : new int[] {0, 1, 98, 99}) {
            RoundFigures x = new RoundFigures();
            b.due("need " + v, x.traveller(0, v, 50), 0);
            b.due("need told", x.told(0, 1), v);
            b.due("bent " + v, x.traveller(0, 50, v), 1);
            b.due("bent told", x.told(1, 2), v);
        }
        for (int kind : new int[] {-1, 6, MIN, MAX}) {
            b.refused("kind " + kind, BAD, Bounds::some, x -> x.traveller(kind, 1, 1));
        }
        for (int v : new int[] {-1, 100, MIN, MAX}) {
            b.refused("need " + v, BAD, Bounds::some, x -> x.traveller(0, v, 1));
            b.refused("bent " + v, BAD, Bounds::some, x -> x.traveller(0, 1, v));
        }
    }

    private static void badAheadOfFull() {
        b.says(2, "of several the one that stands first with it");
        b.refused("kind, no room", BAD, Bounds::full, x -> x.traveller(6, 1, 1));
        b.refused("need, no room", BAD, Bounds::full, x -> x.traveller(0, 100, 1));
        b.refused("bent, no room", BAD, Bounds::full, x -> x.traveller(0, 1, -1));
    }

    // ---- promise 3

    private static void firstFigures() {
        b.says(3, "SPENT, CLAIMED, CAUGHT (how often; 0 each at first)");
        RoundFigures x = one(PADDER, 30, 10);
        x.rule(1, 8);
        x.days(7);
        b.due("one more", x.traveller(CLIMBER, 30, 10), 1);
        for (int what = 3; what < 8; what++) {
            b.due("told(1, " + what + ")", x.told(1, what), 0);
        }
        for (int i = 0; i < 6; i++) {
            b.due("claim(1, " + i + ")", x.claim(1, i), 0);
        }
        // nor has one anything of another who had its number
        RoundFigures y = new RoundFigures();
        y.keep();
        y.traveller(GHOST, 30, 10);
        y.days(1);
        y.rule(1, 0);
        y.days(8);
        b.due("CAUGHT of the other", y.told(0, 5), 1);
        b.due("days since of the other", y.told(0, 6), 8);
        y.back();
        y.traveller(CLIMBER, 1, 2);
        for (int what = 3; what < 8; what++) {
            b.due("told(0, " + what + ") behind back()", y.told(0, what), 0);
        }
        for (int i = 0; i < 6; i++) {
            b.due("claim(0, " + i + ") behind back()", y.claim(0, i), 0);
        }
        b.due("asksFor(0, 10) behind back()", y.asksFor(0, 10), 12);
    }

    private static void toldRefused() {
        b.says(3, "8 WORTH. BAD.");
        RoundFigures x = Bounds.made(Bounds::some);
        for (int what = 0; what < 9; what++) {
            b.due("told(2, " + what + ") is told", x.told(2, what) > -100 ? 1 : 0, 1);
        }
        for (int what : new int[] {-1, 9, MIN, MAX}) {
            b.refused("what " + what, BAD, Bounds::some, y -> y.told(0, what));
        }
        for (int who : new int[] {-1, 3, MIN, MAX}) {
            b.refused("traveller " + who, BAD, Bounds::some, y -> y.told(who, 0));
        }
        b.refused("traveller 8 of 8", BAD, Bounds::full, y -> y.told(8, 0));
        b.refused("traveller 0 of none", BAD, Bounds::nothing, y -> y.told(0, 0));
    }

    // ---- promise 4

    private static void latestSixClaims() {
        b.says(4, "CLAIMS (the latest 6, the latest first; 0 at first)");
        RoundFigures x = one(TRAVELLER, 1, 0);
        for (int day = 0; day <= 8; day++) {
            for (int i = 0; i < 6; i++) {
                b.due("claim(0, " + i + ") behind " + day + " days", x.claim(0, i), Math.max(0, day - i) * 7);
            }
            x.set(0, 1, (day + 1) * 7);
            x.days(1);
        }
    }

    private static void claimRefused() {
        b.says(4, "Of a TRAVELLER its CLAIM i (0 .. 5; 0 the latest). BAD.");
        b.due("claim(0, 5)", one(TRAVELLER, 1, 0).claim(0, 5), 0);
        for (int i : new int[] {-1, 6, MIN, MAX}) {
            b.refused("i " + i, BAD, Bounds::some, x -> x.claim(0, i));
        }
        for (int who : new int[] {-1, 3, MIN, MAX}) {
            b.refused("traveller " + who, BAD, Bounds::some, x -> x.claim(who, 0));
        }
        b.refused("traveller 8 of 8", BAD, Bounds::full, x -> x.claim(8, 0));
    }

    // ---- promise 5

    private static void costsWithoutText() {
        b.says(5, "(without a TEXT: NEED and x)");
        RoundFigures x = new RoundFigures();
        x.traveller(TRAVELLER, 0, 0);
        x.traveller(TRAVELLER, 99, 0);
        Bounds.tells(x, "fee 5");
        Bounds.tells(x, "fine 5");
        for (int by : new int[] {0, 1, 18, 19}) {
            b.due("costs(0, " + by + ")", x.costs(0, by), by);
            b.due("costs(1, " + by + ")", x.costs(1, by), 99 + by);
        }
    }

    private static void costsHeld() {
        b.says(5, "what cost gives, held within 0 .. 999");
        costHeld("x-1", 0, 0);
        costHeld("x-1", 1, 0);
        costHeld("x-1", 2, 1);
        costHeld("980+x", 18, 998);
        costHeld("980+x", 19, 999);
        costHeld("981+x", 19, 999);
        costHeld("9999", 0, 999);
        costHeld("0-9999", 0, 0);
        costHeld("8192*8192*32-1", 0, 999);
        costHeld("8192*8192*32", 0, 0);
        b.says(13, "c what it COSTS by x");
        for (String[] row : new String[][] {{"0-1", "0"}, {"0", "0"}, {"1", "1"}, {"998", "998"}, {"999", "999"}, {"1000", "999"}}) {
            RoundFigures x = one(TRAVELLER, 1, 0);
            Bounds.tells(x, "cost " + row[0]);
            x.days(1);
            b.due("spent on a day that costs " + row[0], x.told(0, 3), Integer.parseInt(row[1]));
            b.due("claimed on a day that costs " + row[0], x.claim(0, 0), Integer.parseInt(row[1]));
        }
    }

    private static void costHeld(String text, int by, int want) {
        RoundFigures x = one(TRAVELLER, 1, 0);
        Bounds.tells(x, "cost " + text);
        b.due("costs(0, " + by + ") by " + text, x.costs(0, by), want);
    }

    private static void costsRefused() {
        b.says(5, "COSTS of a TRAVELLER by x (0 .. 19). BAD.");
        RoundFigures x = one(TRAVELLER, 1, 0);
        Bounds.tells(x, "cost x");
        b.due("costs(0, 0)", x.costs(0, 0), 0);
        b.due("costs(0, 19)", x.costs(0, 19), 19);
        for (int by : new int[] {-1, 20, MIN, MAX}) {
            b.refused("x " + by, BAD, Bounds::some, y -> y.costs(0, by));
        }
        for (int who : new int[] {-1, 3, MIN, MAX}) {
            b.refused("traveller " + who, BAD, Bounds::some, y -> y.costs(who, 0));
        }
        b.refused("traveller 8 of 8", BAD, Bounds::full, y -> y.costs(8, 0));
    }

    // ---- promise 6

    /** Pairs of what it costs and what is asked for it. */
    private static void asks(RoundFigures x, int... pairs) {
        for (int i = 0; i < pairs.length; i += 2) {
            b.due("asksFor(0, " + pairs[i] + ")", x.asksFor(0, pairs[i]), pairs[i + 1]);
        }
    }

    private static void plainAsks() {
        b.says(6, "TRAVELLER: c.");
        asks(one(TRAVELLER, 1, 99), 0, 0, 1, 1, 48, 48, 49, 49, 50, 50, 998, 998, 999, 999);
    }

    private static void rounderAsks() {
        b.says(6, "ROUNDER: the least multiple of 5 that is c or more.");
        asks(one(ROUNDER, 1, 99), 0, 0, 1, 5, 4, 5, 5, 5, 6, 10, 49, 50, 50, 50, 51, 55, 994, 995, 995, 995, 996, 1000, 999, 1000);
    }

    private static void tennerAsks() {
        b.says(6, "TENNER: of 10, likewise.");
        asks(one(TENNER, 1, 99), 0, 0, 1, 10, 5, 10, 9, 10, 10, 10, 11, 20, 49, 50, 50, 50, 51, 60, 989, 990, 990, 990, 991, 1000, 999, 1000);
    }

    private static void padderAsks() {
        b.says(6, "PADDER: c and BENT; but LINE less 1, if that is LINE or more and c is below LINE.");
        asks(one(PADDER, 1, 8), 0, 8, 40, 48, 41, 49, 42, 49, 43, 49, 48, 49, 49, 49, 50, 58, 51, 59, 999, 1007);
        asks(one(PADDER, 1, 0), 0, 0, 48, 48, 49, 49, 50, 50, 51, 51, 999, 999);
        asks(one(PADDER, 1, 1), 47, 48, 48, 49, 49, 49, 50, 51);
        asks(one(PADDER, 1, 99), 0, 49, 49, 49, 50, 149, 999, 1098);
    }

    private static void padderAtLowAndHighLines() {
        b.says(6, "LINE is 1 .. 999");
        RoundFigures low = one(PADDER, 1, 1);
        low.rule(0, 1);
        asks(low, 0, 0, 1, 2, 2, 3);
        low.rule(0, 2);
        asks(low, 0, 1, 1, 1, 2, 3);
        RoundFigures high = one(PADDER, 1, 99);
        high.rule(0, 999);
        asks(high, 898, 997, 899, 998, 900, 998, 998, 998, 999, 1098);
    }

    private static void climberAsks() {
        b.says(6, "CLIMBER: c and BENT and 2 for each day since it was CAUGHT last (or since it came, 20 at most)");
        RoundFigures x = one(CLIMBER, 1, 3);
        x.rule(0, 999);
        for (int day = 0; day <= 23; day++) {
            b.due("behind " + day + " days", x.asksFor(0, 100), 103 + 2 * Math.min(day, 20));
            b.due("told(0, 6)", x.told(0, 6), day);
            x.days(1);
        }
        x.days(100);
        b.due("behind 124 days", x.asksFor(0, 100), 143);
        b.due("told(0, 6)", x.told(0, 6), 124);
    }

    private static void climberSinceItCame() {
        b.says(6, "(or since it came, 20 at most)");
        RoundFigures x = one(TRAVELLER, 1, 0);
        x.rule(0, 999);
        x.days(50);
        x.traveller(CLIMBER, 1, 3);
        b.due("it just came", x.asksFor(1, 100), 103);
        x.days(1);
        b.due("its first claim", x.claim(1, 0), 4);
        b.due("a day ago", x.asksFor(1, 100), 105);
        x.days(1);
        b.due("its second claim", x.claim(1, 0), 6);
        b.due("of the other the days are as they were", x.told(0, 6), 52);
    }

    private static void climberSinceCaught() {
        b.says(6, "for each day since it was CAUGHT last");
        RoundFigures x = one(CLIMBER, 10, 9);
        x.rule(0, 999);
        x.days(4);
        b.due("behind 4 days", x.asksFor(0, 100), 117);
        x.rule(1, 1);
        b.due("caught", x.days(1), 1);
        b.due("caught today", x.asksFor(0, 100), 104);
        x.rule(1, 0);
        x.days(1);
        b.due("a day ago", x.asksFor(0, 100), 106);
        x.days(18);
        b.due("19 days ago", x.asksFor(0, 100), 142);
        x.days(1);
        b.due("20 days ago", x.asksFor(0, 100), 144);
        x.days(1);
        b.due("21 days ago", x.asksFor(0, 100), 144);
    }

    private static void climberBut() {
        b.says(6, "with the same but");
        RoundFigures x = one(CLIMBER, 1, 4);
        x.days(3);
        asks(x, 0, 10, 38, 48, 39, 49, 40, 49, 41, 49, 49, 49, 50, 60, 51, 61, 999, 1009);
        RoundFigures still = one(CLIMBER, 1, 0);
        asks(still, 48, 48, 49, 49, 50, 50);
        still.days(1);
        asks(still, 47, 49, 48, 49, 49, 49, 50, 52);
    }

    private static void ghostAsks() {
        b.says(6, "GHOST: LINE less 1, if c is below that, else c.");
        RoundFigures x = one(GHOST, 1, 99);
        asks(x, 0, 49, 47, 49, 48, 49, 49, 49, 50, 50, 51, 51, 999, 999);
        x.rule(0, 1);
        asks(x, 0, 0, 1, 1, 2, 2);
        x.rule(0, 2);
        asks(x, 0, 1, 1, 1, 2, 2);
        x.rule(0, 999);
        asks(x, 0, 998, 997, 998, 998, 998, 999, 999);
    }

    private static void asksForRefused() {
        b.says(6, "What a TRAVELLER ASKS for what costs c (0 .. 999). BAD.");
        for (int c : new int[] {-1, 1000, MIN, MAX}) {
            b.refused("c " + c, BAD, Bounds::some, x -> x.asksFor(0, c));
        }
        for (int who : new int[] {-1, 3, MIN, MAX}) {
            b.refused("traveller " + who, BAD, Bounds::some, x -> x.asksFor(who, 0));
        }
        b.refused("traveller 8 of 8", BAD, Bounds::full, x -> x.asksFor(8, 0));
    }

    // ---- promise 3: worth, signs

    private static void worth() {
        b.says(3, "WORTH: TRAVELLER: NEED. ROUNDER: as TRAVELLER, and 5. TENNER: twice as ROUNDER. PADDER: 99 less BENT. CLIMBER: as PADDER, less 9. GHOST: 1.");
        int[][] rows = {
            // need, bent, then by kind
            {0, 0, 0, 5, 99, 10, 90, 1},
            {0, 99, 0, 5, 0, 10, -9, 1},
            {99, 0, 99, 104, 99, 208, 90, 1},
            {99, 99, 99, 104, 0, 208, -9, 1},
            {7, 90, 7, 12, 9, 24, 0, 1},
        };
        for (int[] row : rows) {
            for (int kind = 0; kind < 6; kind++) {
                b.due("worth of kind " + kind + " with " + row[0] + ", " + row[1], one(kind, row[0], row[1]).told(0, 8), row[2 + kind]);
            }
        }
    }

    /** The signs of one who claimed these, the latest last. */
    private static void signs(int line, int want, int... claims) {
        RoundFigures x = one(TRAVELLER, 0, 0);
        StringBuilder told = new StringBuilder("signs of");
        for (int claim : claims) {
            x.set(0, 1, claim);
            x.days(1);
            told.append(' ').append(claim);
        }
        x.rule(0, line);
        b.due(told.toString(), x.told(0, 7), want);
    }

    private static void signsAboveZero() {
        b.says(3, "SIGNS of a TRAVELLER, of its CLAIMS above 0, together");
        signs(50, 0);
        signs(50, 0, 0);
        signs(50, 0, 0, 0, 0, 0, 0, 0);
        signs(1, 0, 0, 0);
        signs(2, 4, 1);
        signs(50, 2 + 1 + 4, 10, 49, 25);
    }

    private static void signsOfLastFigures() {
        b.says(3, "2 for each that ends in 0, 1 for each that ends in 5");
        for (int claim = 1; claim < 45; claim++) {
            signs(50, claim % 10 == 0 ? 2 : claim % 10 == 5 ? 1 : 0, claim);
        }
        signs(50, 6, 10, 20, 30);
        signs(50, 3, 15, 25, 35);
        RoundFigures x = one(TRAVELLER, 0, 0);
        Bounds.tells(x, "cost 990+d*5");
        x.days(2);
        b.due("990, 995", x.told(0, 7), 3);
    }

    private static void signsUnderTheLine() {
        b.says(3, "4 for each that is LINE less 1");
        signs(52, 2, 50);
        signs(51, 6, 50);
        signs(50, 2, 50);
        signs(47, 1, 45);
        signs(46, 5, 45);
        signs(45, 1, 45);
        signs(50, 4, 49);
        signs(50, 0, 48);
        signs(99, 0, 99);
        signs(100, 4, 99);
        signs(101, 0, 99);
        signs(50, 8, 49, 1, 49);
        RoundFigures x = one(TRAVELLER, 0, 0);
        Bounds.tells(x, "cost 998");
        x.rule(0, 999);
        x.days(1);
        b.due("998 by 999", x.told(0, 7), 4);
    }

    private static void signsOfRowsAlike() {
        b.says(3, "3 for each that is as the one behind it (the one claimed ahead of it; not of the last of the 6)");
        signs(50, 3, 11, 11);
        signs(50, 0, 11, 12);
        signs(50, 0, 11, 12, 11);
        signs(50, 3, 11, 12, 12);
        signs(50, 3, 12, 12, 11);
        signs(50, 6, 11, 11, 11);
        signs(50, 6, 11, 11, 12, 12);
        signs(50, 0, 11, 0);
        signs(50, 0, 11, 0, 11);
        signs(50, 2 * 2 + 3, 20, 20);
        signs(50, 2 * 4 + 3, 49, 49);
        signs(50, 12, 11, 11, 11, 11, 11);
        signs(50, 15, 11, 11, 11, 11, 11, 11);
    }

    private static void notOfTheLastOfSix() {
        b.says(3, "not of the last of the 6");
        signs(50, 15, 11, 11, 11, 11, 11, 11, 11);
        signs(50, 3, 7, 7, 1, 2, 3, 4);
        signs(50, 0, 7, 7, 1, 2, 3, 4, 6);
        // but its last figure counts, until it is no more of the latest 6
        signs(50, 2, 10, 1, 2, 3, 4, 6);
        signs(50, 0, 10, 1, 2, 3, 4, 6, 7);
        signs(50, 4, 49, 1, 2, 3, 4, 6);
        signs(50, 0, 49, 1, 2, 3, 4, 6, 7);
    }

    // ---- promises 7 to 11

    private static void kindsUnderOneAnother() {
        b.says(7, "0 TRAVELLER; 1 ROUNDER, 2 PADDER, 5 GHOST, under TRAVELLER; 3 TENNER, under ROUNDER; 4 CLIMBER, under PADDER (all are TRAVELLERS).");
        String[] isOf = {"0", "01", "02", "013", "024", "05"};
        for (int kind = 0; kind < 6; kind++) {
            RoundFigures x = one(kind, 23, 0);
            for (int as = 0; as < 6; as++) {
                int want = isOf[kind].contains(String.valueOf(as)) ? 23 : KIND;
                b.due("kind " + kind + " as " + as, x.as(0, as), want);
            }
        }
    }

    private static void asRefused() {
        b.says(7, "A TRAVELLER as one of a KIND: NEED. BAD: traveller, kind; KIND: it is not of that KIND, nor of one under it.");
        for (int kind : new int[] {-1, 6, MIN, MAX}) {
            b.refused("kind " + kind, BAD, Bounds::some, x -> x.as(0, kind));
        }
        for (int who : new int[] {-1, 3, MIN, MAX}) {
            b.refused("traveller " + who, BAD, Bounds::some, x -> x.as(who, 0));
            b.refused("traveller " + who + ", of a KIND that it could not be of", BAD, Bounds::some, x -> x.as(who, 5));
        }
        b.refused("a PADDER as a ROUNDER", KIND, Bounds::some, x -> x.as(0, 1));
        b.refused("a PADDER as a CLIMBER", KIND, Bounds::some, x -> x.as(0, 4));
        b.refused("traveller 8 of 8", BAD, Bounds::full, x -> x.as(8, 0));
    }

    private static void turns() {
        b.says(8, "A TRAVELLER is of another KIND from now on: what it was. BAD.");
        RoundFigures x = one(GHOST, 20, 10);
        x.traveller(ROUNDER, 1, 1);
        x.days(2);
        int was = GHOST;
        for (int kind = 0; kind < 6; kind++) {
            b.due("turns(0, " + kind + ")", x.turns(0, kind), was);
            b.due("told(0, 0)", x.told(0, 0), kind);
            was = kind;
        }
        b.due("turns(0, 2)", x.turns(0, PADDER), GHOST);
        x.days(1);
        b.due("from now on", x.claim(0, 0), 30);
        b.due("not of the days before", x.claim(0, 1), 49);
        b.due("its days stay", x.told(0, 6), 3);
        b.due("the other stays", x.told(1, 0), ROUNDER);
        for (int kind : new int[] {-1, 6, MIN, MAX}) {
            b.refused("kind " + kind, BAD, Bounds::some, y -> y.turns(0, kind));
        }
        for (int who : new int[] {-1, 3, MIN, MAX}) {
            b.refused("traveller " + who, BAD, Bounds::some, y -> y.turns(who, 0));
        }
        b.refused("traveller 8 of 8", BAD, Bounds::full, y -> y.turns(8, 0));
    }

    private static void set() {
        b.says(9, "NEED, BENT (what 1, 2) of a TRAVELLER becomes v: what it was. BAD.");
        for (int what = 1; what <= 2; what++) {
            RoundFigures x = one(PADDER, 33, 33);
            int was = 33;
            for (int v : new int[] {0, 1, 98, 99}) {
                b.due("set(0, " + what + ", " + v + ")", x.set(0, what, v), was);
                b.due("told(0, " + what + ")", x.told(0, what), v);
                was = v;
            }
            b.due("the other one stays", x.told(0, 3 - what), 33);
            for (int v : new int[] {-1, 100, MIN, MAX}) {
                int of = what;
                b.refused("set(0, " + what + ", " + v + ")", BAD, Bounds::some, y -> y.set(0, of, v));
            }
        }
        for (int what : new int[] {0, 3, -1, MIN, MAX}) {
            b.refused("what " + what, BAD, Bounds::some, y -> y.set(0, what, 1));
        }
        for (int who : new int[] {-1, 3, MIN, MAX}) {
            b.refused("traveller " + who, BAD, Bounds::some, y -> y.set(who, 1, 1));
            b.refused("traveller " + who, BAD, Bounds::some, y -> y.set(who, 2, 1));
        }
        b.refused("traveller 8 of 8", BAD, Bounds::full, y -> y.set(8, 1, 1));
    }

    private static void dealBounds() {
        b.says(10, "TRAVELLERS are drawn, n (1 .. 8) of them");
        for (int n = 1; n <= 8; n++) {
            RoundFigures x = new RoundFigures();
            b.due("deal(" + n + ")", x.deal(n), n);
            b.due("how many", x.count(0), n);
            b.due("z", x.count(8), Bounds.zAfter(1, 3 * n));
        }
        for (int n : new int[] {0, -1, 9, MIN, MAX}) {
            b.refused("deal(" + n + ")", BAD, Bounds::some, x -> x.deal(n));
        }
        b.refused("deal(0) without room", BAD, Bounds::full, x -> x.deal(0));
        b.refused("deal(9) without room", BAD, Bounds::full, x -> x.deal(9));
    }

    private static void dealRoom() {
        b.says(10, "as many as there is room for (no draws for others): how many came.");
        for (int there = 0; there <= 8; there++) {
            for (int n = 1; n <= 8; n++) {
                RoundFigures x = new RoundFigures();
                for (int i = 0; i < there; i++) {
                    x.traveller(0, 1, 1);
                }
                int come = Math.min(n, 8 - there);
                b.due("deal(" + n + ") to " + there, x.deal(n), come);
                b.due("how many", x.count(0), there + come);
                b.due("no draws for others", x.count(8), Bounds.zAfter(1, 3 * come));
            }
        }
        b.changesNothing("deal(1) without room", Bounds::full, x -> x.deal(1));
    }

    private static void dealDraws() {
        b.says(10, "TRAVELLERS that are drawn: KIND the rest of a draw by 6, NEED that of one more by 60, BENT that of one more by 30.");
        for (int seed : new int[] {0, 1, -1, 2, 99, MIN, MAX, 123456789, -987654321}) {
            RoundFigures x = new RoundFigures();
            x.seed(seed);
            x.deal(8);
            for (int i = 0; i < 8; i++) {
                b.due("kind of " + i + " by " + seed, x.told(i, 0), Bounds.drawn(seed, 3 * i + 1) % 6);
                b.due("need of " + i + " by " + seed, x.told(i, 1), Bounds.drawn(seed, 3 * i + 2) % 60);
                b.due("bent of " + i + " by " + seed, x.told(i, 2), Bounds.drawn(seed, 3 * i + 3) % 30);
            }
        }
    }

    private static void seed() {
        b.says(11, "z becomes v: what it was.");
        RoundFigures x = new RoundFigures();
        int was = 1;
        for (int v : new int[] {0, -1, MIN, MAX, BAD, NONE, 1}) {
            b.due("seed(" + v + ")", x.seed(v), was);
            b.due("count(8)", x.count(8), v);
            was = v;
        }
    }
}
