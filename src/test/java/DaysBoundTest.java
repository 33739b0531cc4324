/** Terms 2 and promises 12 to 14, sentence by sentence: at each bound, right inside it, right outside it. */
public final class DaysBoundTest {
    private static final int BAD = Bounds.BAD, NONE = Bounds.NONE, MIN = Bounds.MIN, MAX = Bounds.MAX;
    private static final int TRAVELLER = 0, ROUNDER = 1, PADDER = 2, TENNER = 3, CLIMBER = 4, GHOST = 5;
    private static final int LINE = 0, LOOKS = 1, MODE = 2, BY_LOT = 0, BY_SIGNS = 1;
    private static final int[] SEEDS = {0, 1, -1, 7, 1000, MIN, MAX, 123456789, -987654321};
    private static final Bounds b = new Bounds("DaysBoundTest");

    public static void main(String[] args) {
        rulesAtFirst();
        ruleBounds();
        ruleRefused();
        daysBounds();
        daysRefused();
        upToTheLastDay();
        onTheLastDay();
        travellersDraw();
        costByDraw();
        zWraps();
        aDrawGives();
        looksNoMoreThanTravellers();
        looksByLot();
        lookedAtTwice();
        noOneToLookAt();
        mostSignsFirst();
        ofSeveralTheLeast();
        eachOnceADay();
        signsOfThisDayCount();
        withoutSigns();
        lies();
        notPaid();
        halfBent();
        daysSinceCaught();
        howManyWereCaught();
        coins();
        whoStandsOut();
        coinsOfThoseWhoAre();
        coinsRefused();
        b.end(12, 14);
    }

    /** One of a kind whose costs no lot touches. */
    private static RoundFigures one(int kind, int need, int bent) {
        RoundFigures x = new RoundFigures();
        Bounds.tells(x, "cost n");
        x.traveller(kind, need, bent);
        return x;
    }

    // ---- promise 12

    private static void rulesAtFirst() {
        b.says(12, "LINE is 1 .. 999 (50 at first), LOOKS 0 .. 8 a day (1), MODE 0 (by lot; at first) or 1 (who stands out).");
        b.due("LINE", new RoundFigures().rule(LINE, 7), 50);
        b.due("LOOKS", new RoundFigures().rule(LOOKS, 7), 1);
        b.due("MODE", new RoundFigures().rule(MODE, 1), 0);
    }

    private static void ruleBounds() {
        b.says(12, "LINE (what 0), LOOKS (1), MODE (2) becomes v: what it was. BAD.");
        int[][] within = {{1, 2, 998, 999}, {0, 1, 7, 8}, {0, 1}};
        int[] first = {50, 1, 0};
        for (int what = 0; what < 3; what++) {
            RoundFigures x = new RoundFigures();
            int was = first[what];
            for (int v : within[what]) {
                b.due("rule(" + what + ", " + v + ")", x.rule(what, v), was);
                b.due("count(" + (2 + what) + ")", x.count(2 + what), v);
                was = v;
            }
            for (int other = 0; other < 3; other++) {
                b.due("the others stay", x.count(2 + other), other == what ? was : first[other]);
            }
        }
    }

    private static void ruleRefused() {
        b.says(12, "becomes v: what it was. BAD.");
        int[][] outside = {{0, 1000, -1, MIN, MAX}, {-1, 9, MIN, MAX}, {-1, 2, MIN, MAX}};
        for (int what = 0; what < 3; what++) {
            int of = what;
            for (int v : outside[what]) {
                b.refused("rule(" + what + ", " + v + ")", BAD, Bounds::some, x -> x.rule(of, v));
            }
        }
        for (int what : new int[] {-1, 3, MIN, MAX}) {
            b.refused("rule(" + what + ", 1)", BAD, Bounds::some, x -> x.rule(what, 1));
        }
    }

    // ---- promise 13: how many days

    private static void daysBounds() {
        b.says(13, "n (1 .. 100) DAYS");
        for (int n : new int[] {1, 2, 99, 100}) {
            RoundFigures x = one(TRAVELLER, 3, 0);
            b.due("days(" + n + ")", x.days(n), 0);
            b.due("THE DAY", x.count(1), n);
            b.due("spent", x.told(0, 3), 3 * n);
        }
    }

    private static void daysRefused() {
        b.says(13, "how many were CAUGHT in them. BAD.");
        for (int n : new int[] {0, -1, 101, MIN, MAX}) {
            b.refused("days(" + n + ")", BAD, Bounds::some, x -> x.days(n));
            b.refused("days(" + n + ") on the last day", BAD, Bounds::onTheLastDay, x -> x.days(n));
        }
    }

    private static void upToTheLastDay() {
        b.says(13, "(no more than up to 9999)");
        int[][] rows = {{9898, 100, 9998}, {9899, 100, 9999}, {9900, 100, 9999}, {9900, 99, 9999}, {9998, 1, 9999}, {9998, 2, 9999}, {9998, 100, 9999}, {9997, 1, 9998}};
        for (int[] row : rows) {
            RoundFigures x = new RoundFigures();
            Bounds.toDay(x, row[0]);
            Bounds.tells(x, "cost n");
            x.traveller(GHOST, 30, 0);
            int days = row[2] - row[0];
            b.due("days(" + row[1] + ") from " + row[0], x.days(row[1]), days);
            b.due("THE DAY", x.count(1), row[2]);
            b.due("spent", x.told(0, 3), 30 * days);
            b.due("draws", x.count(8), Bounds.zAfter(1, 2 * days));
        }
    }

    private static void onTheLastDay() {
        b.says(13, "THE DAY is 0 at first, 9999 at most.");
        b.due("at first", new RoundFigures().count(1), 0);
        b.changesNothing("days(1)", Bounds::onTheLastDay, x -> x.days(1));
        b.changesNothing("days(100)", Bounds::onTheLastDay, x -> x.days(100));
        RoundFigures x = Bounds.made(Bounds::onTheLastDay);
        b.due("THE DAY", x.count(1), 9999);
        x.set(0, 2, 99);
        x.rule(LOOKS, 8);
        x.rule(MODE, BY_SIGNS);
        b.due("days(1)", x.days(1), 0);
        b.due("THE DAY", x.count(1), 9999);
        b.due("back to an early day", x.back(), 3);
        x.days(1);
        b.due("from there on they pass", x.count(1), 6);
    }

    // ---- promise 13: draws

    private static void travellersDraw() {
        b.says(13, "TRAVELLERS by numbers: a draw; x is its rest by 20");
        for (int seed : SEEDS) {
            RoundFigures x = new RoundFigures();
            Bounds.tells(x, "cost x+n");
            for (int i = 0; i < 8; i++) {
                x.traveller(TRAVELLER, 10 * i, 0);
            }
            x.rule(LOOKS, 0);
            x.seed(seed);
            x.days(1);
            for (int i = 0; i < 8; i++) {
                b.due("claim of " + i + " by " + seed, x.claim(i, 0), 10 * i + Bounds.drawn(seed, 1 + i) % 20);
                b.due("spent of " + i + " by " + seed, x.told(i, 3), 10 * i + Bounds.drawn(seed, 1 + i) % 20);
            }
            b.due("z", x.count(8), Bounds.zAfter(seed, 8));
        }
    }

    private static void costByDraw() {
        b.says(13, "x is its rest by 20");
        boolean[] met = new boolean[20];
        RoundFigures x = new RoundFigures();
        Bounds.tells(x, "cost x");
        x.traveller(TRAVELLER, 0, 0);
        x.rule(LOOKS, 0);
        for (int i = 0; i < 150; i++) {
            x.days(1);
            int claim = x.claim(0, 0);
            b.due("x is within 0 .. 19", claim >= 0 && claim < 20 ? 1 : 0, 1);
            met[Math.max(0, Math.min(19, claim))] = true;
        }
        for (int i = 0; i < 20; i++) {
            b.due("x may be " + i, met[i] ? 1 : 0, 1);
        }
    }

    private static void zWraps() {
        b.says(13, "A draw: z becomes z * 1103515245 + 12345 (an int)");
        int[][] rows = {{0, 12345}, {1, 1103527590}, {2, -2087924461}, {-1, -1103502900}, {MAX, 1043980748}, {MIN, -2147471303}};
        for (int[] row : rows) {
            RoundFigures x = one(TRAVELLER, 0, 0);
            x.rule(LOOKS, 0);
            x.seed(row[0]);
            x.days(1);
            b.due("z behind " + row[0], x.count(8), row[1]);
        }
        RoundFigures x = one(TRAVELLER, 0, 0);
        x.days(100);
        b.due("z behind 200 draws", x.count(8), Bounds.zAfter(1, 200));
    }

    private static void aDrawGives() {
        b.says(13, "it gives z >>> 8");
        // 2 becomes -2087924461: its sign is no sign of what it gives
        RoundFigures x = new RoundFigures();
        Bounds.tells(x, "cost x");
        x.traveller(TRAVELLER, 0, 0);
        x.rule(LOOKS, 0);
        x.seed(2);
        x.days(1);
        b.due("x by 2", x.claim(0, 0), 8621261 % 20);
        x.seed(MIN);
        x.days(1);
        b.due("x by the least z", x.claim(0, 0), 8388656 % 20);
    }

    // ---- promise 13: looks

    private static void looksNoMoreThanTravellers() {
        b.says(13, "LOOKS (no more than there are TRAVELLERS), one behind the other");
        for (int many = 0; many <= 8; many++) {
            for (int looks = 0; looks <= 8; looks++) {
                RoundFigures x = new RoundFigures();
                Bounds.tells(x, "cost 7");
                for (int i = 0; i < many; i++) {
                    x.traveller(GHOST, 0, 0);
                }
                x.rule(LOOKS, looks);
                int did = Math.min(looks, many);
                x.days(1);
                b.due("draws of " + many + " with " + looks + " looks", x.count(8), Bounds.zAfter(1, many + did));
                x.rule(MODE, BY_SIGNS);
                x.seed(1);
                b.due("caught of " + many + " with " + looks + " looks", x.days(1), did);
                b.due("no draws for looks at who stands out", x.count(8), Bounds.zAfter(1, many));
            }
        }
    }

    private static void looksByLot() {
        b.says(13, "by lot: at the one with the number that is a draw's rest by how many there are (perhaps one that was looked at already)");
        for (int seed : SEEDS) {
            for (int many : new int[] {1, 2, 3, 5, 8}) {
                for (int looks : new int[] {1, 2, 8}) {
                    RoundFigures x = new RoundFigures();
                    Bounds.tells(x, "cost 7");
                    for (int i = 0; i < many; i++) {
                        x.traveller(GHOST, 0, 0);
                    }
                    x.rule(LOOKS, looks);
                    x.seed(seed);
                    int[] caught = new int[many];
                    int sum = 0;
                    for (int look = 1; look <= Math.min(looks, many); look++) {
                        int at = Bounds.drawn(seed, many + look) % many;
                        sum += 1 - caught[at];
                        caught[at] = 1;
                    }
                    b.due(looks + " looks at " + many + " by " + seed, x.days(1), sum);
                    for (int i = 0; i < many; i++) {
                        b.due("caught " + i + " by " + seed, x.told(i, 5), caught[i]);
                    }
                }
            }
        }
    }

    private static void lookedAtTwice() {
        b.says(13, "One who lies and is looked at (for the first time on this day) is CAUGHT");
        int seed = 0;
        while (Bounds.drawn(seed, 3) % 2 != 1 || Bounds.drawn(seed, 4) % 2 != 1) {
            seed++;
        }
        RoundFigures x = one(TRAVELLER, 0, 0);
        x.traveller(PADDER, 20, 8);
        x.rule(LOOKS, 2);
        x.seed(seed);
        b.due("both looks go to 1", x.days(1), 1);
        b.due("caught once", x.told(1, 5), 1);
        b.due("half once", x.told(1, 2), 4);
        b.due("not paid once", x.told(1, 4), 20);
        x.seed(seed);
        b.due("on the next day anew", x.days(1), 1);
        b.due("caught twice", x.told(1, 5), 2);
    }

    private static void noOneToLookAt() {
        b.says(13, "LOOKS (no more than there are TRAVELLERS)");
        RoundFigures x = new RoundFigures();
        x.rule(LOOKS, 8);
        b.due("days by lot", x.days(100), 0);
        x.rule(MODE, BY_SIGNS);
        b.due("days by who stands out", x.days(100), 0);
        b.due("they pass", x.count(1), 200);
        b.due("no draws", x.count(8), 1);
    }

    /** Padders at a line of 999 who claim just what is told; costs are half of it. */
    private static RoundFigures claimants(int looks, int... claims) {
        RoundFigures x = new RoundFigures();
        Bounds.tells(x, "cost n");
        for (int claim : claims) {
            x.traveller(PADDER, claim / 2, claim - claim / 2);
        }
        x.rule(LINE, 999);
        x.rule(MODE, BY_SIGNS);
        x.rule(LOOKS, looks);
        x.days(1);
        return x;
    }

    private static void caught(String what, RoundFigures x, int... want) {
        for (int i = 0; i < want.length; i++) {
            b.due(what + ": caught " + i, x.told(i, 5), want[i]);
        }
    }

    private static void mostSignsFirst() {
        b.says(13, "by who stands out: at the one with the most SIGNS of those not looked at on this day");
        caught("no look", claimants(0, 11, 15, 20, 12), 0, 0, 0, 0);
        caught("one look", claimants(1, 11, 15, 20, 12), 0, 0, 1, 0);
        caught("two looks", claimants(2, 11, 15, 20, 12), 0, 1, 1, 0);
        caught("three looks", claimants(3, 11, 15, 20, 12), 1, 1, 1, 0);
        caught("four looks", claimants(4, 11, 15, 20, 12), 1, 1, 1, 1);
        caught("five looks", claimants(5, 11, 15, 20, 12), 1, 1, 1, 1);
        caught("the first", claimants(1, 20, 15, 11), 1, 0, 0);
        caught("the last", claimants(1, 11, 15, 20), 0, 0, 1);
    }

    private static void ofSeveralTheLeast() {
        b.says(13, "of those not looked at on this day, of several the least");
        caught("one look", claimants(1, 20, 20, 20), 1, 0, 0);
        caught("two looks", claimants(2, 20, 20, 20), 1, 1, 0);
        caught("one look", claimants(1, 11, 20, 20), 0, 1, 0);
        caught("two looks", claimants(2, 15, 15, 20), 1, 0, 1);
    }

    private static void eachOnceADay() {
        b.says(13, "those not looked at on this day");
        RoundFigures x = claimants(1, 20, 15);
        x.set(0, 2, 10);
        b.due("on the next day at the same one", x.days(1), 1);
        caught("by then", x, 2, 0);
        RoundFigures y = new RoundFigures();
        Bounds.tells(y, "cost n");
        y.traveller(TRAVELLER, 20, 0);
        y.traveller(PADDER, 10, 5);
        y.rule(MODE, BY_SIGNS);
        b.due("the look goes to one who does not lie", y.days(1), 0);
        y.rule(LOOKS, 2);
        b.due("the second one goes to the other", y.days(1), 1);
    }

    private static void signsOfThisDayCount() {
        b.says(13, "a is the latest of its CLAIMS");
        // without the claim of the day 0 would stand out: 3 for a row alike; with it 1 does
        RoundFigures x = new RoundFigures();
        Bounds.tells(x, "cost n");
        x.traveller(PADDER, 11, 0);
        x.traveller(PADDER, 10, 0);
        x.rule(LINE, 999);
        x.rule(LOOKS, 0);
        x.days(1);
        x.set(1, 1, 11);
        x.days(1);
        x.set(0, 2, 1);
        x.set(1, 1, 49);
        x.set(1, 2, 1);
        x.rule(LINE, 51);
        x.rule(LOOKS, 1);
        x.rule(MODE, BY_SIGNS);
        b.due("signs ahead of the day", x.told(0, 7) * 100 + x.told(1, 7), 302);
        b.due("one is caught", x.days(1), 1);
        caught("by 50 just under the line", x, 0, 1);
    }

    private static void withoutSigns() {
        b.says(13, "at the one with the most SIGNS");
        caught("none has signs", claimants(1, 11, 12), 1, 0);
        caught("none has signs", claimants(2, 11, 12), 1, 1);
    }

    private static void lies() {
        b.says(13, "it lies, if a is above c.");
        int[][] rows = {
            // kind, need, bent, is it a lie
            {TRAVELLER, 20, 9, 0}, {ROUNDER, 20, 9, 0}, {ROUNDER, 19, 9, 1}, {TENNER, 20, 9, 0}, {TENNER, 19, 9, 1},
            {PADDER, 20, 0, 0}, {PADDER, 20, 1, 1}, {PADDER, 49, 9, 0}, {PADDER, 48, 9, 1}, {CLIMBER, 20, 0, 0},
            {GHOST, 49, 9, 0}, {GHOST, 48, 9, 1}, {GHOST, 50, 9, 0},
        };
        for (int[] row : rows) {
            for (int mode = BY_LOT; mode <= BY_SIGNS; mode++) {
                RoundFigures x = one(row[0], row[1], row[2]);
                x.rule(MODE, mode);
                String who = "kind " + row[0] + " with " + row[1] + ", " + row[2];
                b.due(who + " is caught", x.days(1), row[3]);
                b.due(who + ": CAUGHT", x.told(0, 5), row[3]);
                b.due(who + ": BENT", x.told(0, 2), row[3] == 1 ? row[2] / 2 : row[2]);
                b.due(who + ": days since", x.told(0, 6), 1 - row[3]);
                b.due(who + ": CLAIMED", x.told(0, 4), row[1]);
            }
        }
    }

    private static void notPaid() {
        b.says(13, "CAUGHT 1 more; what is above c is not paid: CLAIMED is so much less");
        RoundFigures x = one(PADDER, 20, 9);
        x.rule(LOOKS, 0);
        x.days(2);
        b.due("CLAIMED", x.told(0, 4), 58);
        b.due("SPENT", x.told(0, 3), 40);
        x.rule(LOOKS, 1);
        x.days(1);
        b.due("CLAIMED", x.told(0, 4), 78);
        b.due("SPENT", x.told(0, 3), 60);
        b.due("CAUGHT", x.told(0, 5), 1);
        b.due("the CLAIM stays", x.claim(0, 0), 29);
        b.due("PAD", x.coins(2), 18);
    }

    private static void halfBent() {
        b.says(13, "BENT is half (cut).");
        int[][] rows = {{0, 0}, {1, 0}, {2, 1}, {3, 1}, {4, 2}, {98, 49}, {99, 49}};
        for (int[] row : rows) {
            RoundFigures x = one(GHOST, 20, row[0]);
            b.due("caught with " + row[0], x.days(1), 1);
            b.due("BENT of " + row[0], x.told(0, 2), row[1]);
        }
        RoundFigures x = one(GHOST, 20, 99);
        x.days(6);
        b.due("six times", x.told(0, 2), 1);
        x.days(2);
        b.due("eight times", x.told(0, 2), 0);
    }

    private static void daysSinceCaught() {
        b.says(13, "THE DAY is 1 more; so is, of each, how many days since it was CAUGHT (0 for one CAUGHT on this day).");
        RoundFigures x = one(GHOST, 20, 0);
        x.traveller(TRAVELLER, 20, 0);
        x.rule(LOOKS, 0);
        x.days(3);
        b.due("never caught", x.told(0, 6), 3);
        x.rule(LOOKS, 2);
        x.rule(MODE, BY_SIGNS);
        x.days(1);
        b.due("caught on this day", x.told(0, 6), 0);
        b.due("the other one", x.told(1, 6), 4);
        x.days(1);
        b.due("caught again", x.told(0, 6), 0);
        x.rule(LOOKS, 0);
        x.days(1);
        b.due("a day ago", x.told(0, 6), 1);
        b.due("the other one", x.told(1, 6), 6);
        b.due("THE DAY", x.count(1), 6);
    }

    private static void howManyWereCaught() {
        b.says(13, "how many were CAUGHT in them");
        RoundFigures x = one(GHOST, 20, 0);
        x.traveller(GHOST, 20, 0);
        x.traveller(TRAVELLER, 20, 0);
        x.rule(LOOKS, 8);
        x.rule(MODE, BY_SIGNS);
        b.due("days(5)", x.days(5), 10);
        b.due("of these days alone", x.days(1), 2);
        b.due("of all days", x.coins(3), 12);
    }

    // ---- promise 14

    private static void coins() {
        b.says(14, "PAD: CLAIMED less SPENT of all, together.");
        RoundFigures x = one(GHOST, 20, 0);
        x.traveller(ROUNDER, 21, 0);
        x.traveller(TRAVELLER, 30, 0);
        x.rule(LOOKS, 0);
        x.days(2);
        b.due("SPENT of all", x.coins(0), 2 * (20 + 21 + 30));
        b.due("CLAIMED of all", x.coins(1), 2 * (49 + 25 + 30));
        b.due("PAD", x.coins(2), 2 * (29 + 4));
        b.due("CAUGHT of all", x.coins(3), 0);
        x.rule(LOOKS, 8);
        x.rule(MODE, BY_SIGNS);
        x.days(1);
        b.due("CAUGHT of all", x.coins(3), 2);
        b.due("PAD", x.coins(2), 2 * (29 + 4));
    }

    private static void whoStandsOut() {
        b.says(14, "4 who stands out now (most SIGNS, of several the least; NONE). BAD.");
        RoundFigures x = new RoundFigures();
        b.due("none", x.coins(4), NONE);
        x.days(1);
        b.due("none", x.coins(4), NONE);
        b.due("the last", claimants(0, 11, 15, 20).coins(4), 2);
        b.due("the first", claimants(0, 20, 15, 11).coins(4), 0);
        b.due("between", claimants(0, 15, 20, 15).coins(4), 1);
        b.due("of several the least", claimants(0, 15, 20, 20).coins(4), 1);
        b.due("of several the least", claimants(0, 20, 20, 20).coins(4), 0);
        RoundFigures y = claimants(0, 11, 15, 20);
        y.rule(LINE, 12);
        b.due("by the LINE now", y.coins(4), 0);
    }

    /** Those who came behind an image and are gone with back() are in no sum. */
    private static void coinsOfThoseWhoAre() {
        b.says(14, "0 SPENT of all, 1 CLAIMED of all, 2 PAD, 3 CAUGHT of all");
        RoundFigures x = new RoundFigures();
        x.keep();
        Bounds.tells(x, "cost n");
        x.traveller(GHOST, 20, 0);
        x.traveller(GHOST, 20, 0);
        x.rule(LOOKS, 1);
        x.days(9);
        x.rule(LOOKS, 0);
        x.days(9);
        x.back();
        for (int what = 0; what < 4; what++) {
            b.due("coins(" + what + ") of none", x.coins(what), 0);
        }
        b.due("coins(4) of none", x.coins(4), NONE);
        x.traveller(TRAVELLER, 11, 0);
        for (int what = 0; what < 5; what++) {
            b.due("coins(" + what + ") of one who just came", x.coins(what), 0);
        }
        x.rule(LOOKS, 0);
        Bounds.tells(x, "cost n");
        x.days(1);
        int[] want = {11, 11, 0, 0, 0};
        for (int what = 0; what < 5; what++) {
            b.due("coins(" + what + ") of one", x.coins(what), want[what]);
        }
        RoundFigures eight = claimants(8, 12, 14, 16, 18, 12, 14, 16, 20);
        int[] wants = {61, 61, 0, 8, 7};
        for (int what = 0; what < 5; what++) {
            b.due("coins(" + what + ") of eight", eight.coins(what), wants[what]);
        }
    }

    private static void coinsRefused() {
        b.says(14, "NONE). BAD.");
        for (int what : new int[] {-1, 5, MIN, MAX}) {
            b.refused("coins(" + what + ")", BAD, Bounds::some, x -> x.coins(what));
            b.refused("coins(" + what + ") of none", BAD, Bounds::nothing, x -> x.coins(what));
        }
    }
}
