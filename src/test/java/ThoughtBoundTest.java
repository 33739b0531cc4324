/** Terms 3 and promises 15 to 23, sentence by sentence: at each bound, right inside it, right outside it. */
public final class ThoughtBoundTest {
    private static final int BAD = Bounds.BAD, NONE = Bounds.NONE, NOTHING = Bounds.NOTHING, MIN = Bounds.MIN, MAX = Bounds.MAX;
    private static final int TRAVELLER = 0, ROUNDER = 1, PADDER = 2, TENNER = 3, GHOST = 5;
    private static final int LINE = 0, LOOKS = 1, MODE = 2, BY_SIGNS = 1;
    private static final int[] SEEDS = {0, 1, -1, 7, 1000, MIN, MAX, 123456789, -987654321};
    private static final Bounds b = new Bounds("ThoughtBoundTest");

    public static void main(String[] args) {
        nothingChanges();
        withoutTheBoundOfTheDay();
        zAsItIs();
        oneBehindAnother();
        noneOfThoseWhoAreGone();
        behindBounds();
        behindSigns();
        behindRefused();
        bestLineBounds();
        bestLineTies();
        bestLineSigns();
        bestLineDays();
        bestLineRefused();
        bestLooksBounds();
        bestLooksSum();
        bestLooksRefused();
        withoutLeast();
        withoutBySigns();
        withoutByLot();
        withoutOne();
        withoutAnyone();
        withoutRefused();
        flatAsMuchOrMore();
        flatIsOfWhatComes();
        flatRefused();
        standsOutMore();
        standsOutAlone();
        standsOutRefused();
        bentUpToForty();
        bentOfSeveralTheLeast();
        bentFromPlaceZero();
        bentOfNumbersAlone();
        bentSignsLeftOut();
        bentOfAllPlaces();
        bentCaught();
        bentByRefused();
        fee();
        fine();
        b.end(15, 23);
    }

    /** Costs that no lot touches, no looks; then so many of a kind, each with its NEED and this BENT. */
    private static RoundFigures all(int kind, int bent, int... needs) {
        RoundFigures x = new RoundFigures();
        Bounds.tells(x, "cost n");
        x.rule(LOOKS, 0);
        for (int need : needs) {
            x.traveller(kind, need, bent);
        }
        return x;
    }

    private static RoundFigures onTheLastDay(int kind, int bent, int... needs) {
        RoundFigures x = all(kind, bent, needs);
        Bounds.toDay(x, 9999);
        return x;
    }

    // ---- all of it

    private static void nothingChanges() {
        b.says(15, "(All this is only thought, from now on, z as it is, without the bound of THE DAY: nothing changes.)");
        Bounds.Script[] states = {Bounds::nothing, Bounds::some, Bounds::full, Bounds::onTheLastDay};
        for (Bounds.Script state : states) {
            b.changesNothing("behind(100, 0)", state, x -> x.behind(100, 0));
            b.changesNothing("bestLine(30, 0)", state, x -> x.bestLine(30, 0));
            b.changesNothing("bestLooks(60, 9, 0)", state, x -> x.bestLooks(60, 9, 0));
            b.changesNothing("without(60, 0)", state, x -> x.without(60, 0));
            b.changesNothing("flat(60)", state, x -> x.flat(60));
            b.changesNothing("standsOut(0, 60)", state, x -> x.standsOut(0, 60));
            b.changesNothing("bentBy(0, 0, 0)", state, x -> x.bentBy(0, 0, 0));
            b.changesNothing("fee()", state, RoundFigures::fee);
            b.changesNothing("fine(0)", state, x -> x.fine(0));
        }
    }

    private static void withoutTheBoundOfTheDay() {
        b.says(15, "without the bound of THE DAY");
        RoundFigures x = onTheLastDay(TRAVELLER, 0);
        x.traveller(TRAVELLER, 0, 0);
        Bounds.tells(x, "cost d-9990");
        b.due("behind(3, 1)", x.behind(3, 1), 9 + 10 + 11);
        b.due("flat(3)", x.flat(3), 10);
        // of 9, 10, .. 14 the second has 2 signs, the last one more
        b.due("standsOut(0, 1)", x.standsOut(0, 1), 0);
        b.due("standsOut(0, 6)", x.standsOut(0, 6), 5);
        RoundFigures padder = onTheLastDay(PADDER, 5);
        padder.traveller(PADDER, 9, 5);
        b.due("bestLine(3, 0)", padder.bestLine(3, 0), 10);
        padder.sheet(0, 0, 3);
        padder.mark(0, 1, 16);
        padder.mark(0, 2, 32);
        b.due("bentBy(0, 0, 0)", padder.bentBy(0, 0, 0), 7);
        b.due("bentBy(0, 0, 1)", padder.bentBy(0, 0, 1), 0);
        RoundFigures two = onTheLastDay(GHOST, 0);
        two.traveller(TRAVELLER, 9, 0);
        two.traveller(GHOST, 9, 0);
        two.rule(MODE, BY_SIGNS);
        b.due("bestLooks(2, 0, 0)", two.bestLooks(2, 0, 0), 1);
        b.due("without(2, 0)", two.without(2, 0), 1);
        b.due("THE DAY", two.count(1), 9999);
    }

    private static void zAsItIs() {
        b.says(15, "from now on, z as it is");
        for (int seed : SEEDS) {
            RoundFigures x = new RoundFigures();
            x.traveller(TRAVELLER, 10, 0);
            x.days(2);
            int before = x.coins(1);
            x.seed(seed);
            int want = before + 20 + Bounds.drawn(seed, 1) % 20 + Bounds.drawn(seed, 3) % 20;
            b.due("behind(2, 1) by " + seed, x.behind(2, 1), want);
            b.due("and again", x.behind(2, 1), want);
            x.days(2);
            b.due("as it comes", x.coins(1), want);
        }
    }

    private static void oneBehindAnother() {
        b.says(15, "nothing changes.)");
        Bounds.Call[] calls = {
            x -> x.behind(9, 0), x -> x.behind(9, 4), x -> x.bestLine(9, 0), x -> x.bestLine(9, 1), x -> x.bestLooks(9, 5, 0), x -> x.bestLooks(9, 5, 1),
            x -> x.without(9, 0), x -> x.without(9, 1), x -> x.flat(9), x -> x.standsOut(1, 9), x -> x.bentBy(0, 0, 0), x -> x.bentBy(0, 0, 1),
        };
        for (int first = 0; first < calls.length; first++) {
            for (int second = 0; second < calls.length; second++) {
                RoundFigures x = Bounds.made(Bounds::some);
                calls[first].on(x);
                b.due("call " + second + " behind call " + first, calls[second].on(x), calls[second].on(Bounds.made(Bounds::some)));
            }
        }
        // the least of one call must not be that of the next one
        RoundFigures x = all(GHOST, 0, 40, 41);
        b.due("bestLine(1, 1)", x.bestLine(1, 1), 0);
        b.due("without(1, 0)", x.without(1, 0), 0);
        b.due("without(1, 1)", x.without(1, 1), 8);
        b.due("bestLooks(1, 999, 1)", x.bestLooks(1, 999, 1), 17);
        b.due("bestLooks(1, 999, 0)", x.bestLooks(1, 999, 0), 0);
        x.sheet(0, 0, 1);
        x.mark(0, 0, 500);
        b.due("bentBy(0, 0, 1)", x.bentBy(0, 0, 1), 500);
        b.due("bestLine(1, 1)", x.bestLine(1, 1), 0);
    }

    /** Those who came behind an image and are gone with back() are in nothing that is thought. */
    private static void noneOfThoseWhoAreGone() {
        b.says(15, "BEHIND n DAYS: PAD; CLAIMED of all; CAUGHT of all; SIGNS of a TRAVELLER.");
        RoundFigures x = all(TRAVELLER, 0, 15);
        x.keep();
        x.traveller(GHOST, 0, 0);
        x.traveller(GHOST, 0, 0);
        x.rule(LOOKS, 8);
        x.rule(MODE, BY_SIGNS);
        x.days(9);
        x.behind(9, 0);
        x.back();
        b.due("behind(2, 0)", x.behind(2, 0), 0);
        b.due("behind(2, 1)", x.behind(2, 1), 30);
        b.due("behind(2, 2)", x.behind(2, 2), 0);
        b.due("behind(2, 4)", x.behind(2, 4), BAD);
        b.due("standsOut(0, 9)", x.standsOut(0, 9), 9);
        b.due("without(2, 0)", x.without(2, 0), 0);
        b.due("flat(2)", x.flat(2), 15);
        x.traveller(TRAVELLER, 11, 0);
        b.due("standsOut(0, 9) of two", x.standsOut(0, 9), 9);
        b.due("standsOut(1, 9) of two", x.standsOut(1, 9), 0);
    }

    // ---- promise 15

    private static void behindBounds() {
        b.says(15, "BEHIND n (0 .. 100) DAYS: what 0 PAD, 1 CLAIMED, 2 CAUGHT");
        RoundFigures x = all(GHOST, 0, 40);
        x.traveller(TRAVELLER, 5, 0);
        x.days(3);
        for (int n : new int[] {0, 1, 2, 99, 100}) {
            b.due("behind(" + n + ", 0)", x.behind(n, 0), 9 * (3 + n));
            b.due("behind(" + n + ", 1)", x.behind(n, 1), 54 * (3 + n));
            b.due("behind(" + n + ", 2)", x.behind(n, 2), 0);
        }
        x.rule(LOOKS, 2);
        x.rule(MODE, BY_SIGNS);
        for (int n : new int[] {0, 1, 2, 99, 100}) {
            b.due("behind(" + n + ", 0)", x.behind(n, 0), 9 * 3);
            b.due("behind(" + n + ", 1)", x.behind(n, 1), 54 * 3 + 45 * n);
            b.due("behind(" + n + ", 2)", x.behind(n, 2), n);
        }
    }

    private static void behindSigns() {
        b.says(15, "3 and k: SIGNS of TRAVELLER k.");
        RoundFigures x = all(TRAVELLER, 0, 10, 11, 15, 20, 12, 25, 30, 49);
        int[] signs = {2, 0, 1, 2, 0, 1, 2, 4};
        for (int k = 0; k < 8; k++) {
            b.due("behind(0, " + (3 + k) + ")", x.behind(0, 3 + k), 0);
            b.due("behind(1, " + (3 + k) + ")", x.behind(1, 3 + k), signs[k]);
            b.due("behind(2, " + (3 + k) + ")", x.behind(2, 3 + k), 2 * signs[k] + 3);
            b.due("behind(100, " + (3 + k) + ")", x.behind(100, 3 + k), 6 * signs[k] + 15);
        }
    }

    private static void behindRefused() {
        b.says(15, "SIGNS of TRAVELLER k. BAD.");
        for (int n : new int[] {-1, 101, MIN, MAX}) {
            b.refused("behind(" + n + ", 0)", BAD, Bounds::some, x -> x.behind(n, 0));
        }
        for (int what : new int[] {-1, 6, MIN, MAX}) {
            b.refused("behind(1, " + what + ") of three", BAD, Bounds::some, x -> x.behind(1, what));
        }
        b.refused("behind(1, 11) of eight", BAD, Bounds::full, x -> x.behind(1, 11));
        b.refused("behind(1, 3) of none", BAD, Bounds::nothing, x -> x.behind(1, 3));
        for (int what = 0; what < 3; what++) {
            b.due("behind(100, " + what + ") of none", new RoundFigures().behind(100, what), 0);
        }
    }

    // ---- promise 16

    private static void bestLineBounds() {
        b.says(16, "BEST LINE for n: the LINE 1 .. 120 with which PAD behind n DAYS is least");
        // a padder pads nothing by the line that is 1 above what it costs, and 1 more by each line above that
        for (int cost : new int[] {0, 1, 2, 60, 97, 98, 99}) {
            RoundFigures x = all(PADDER, 30, cost);
            b.due("line for " + cost, x.bestLine(1, 0), cost + 1);
            b.due("pad for " + cost, x.bestLine(1, 1), 0);
        }
        for (int cost : new int[] {117, 118, 119}) {
            RoundFigures x = all(PADDER, 30, 1);
            Bounds.tells(x, "cost " + cost);
            b.due("line for " + cost, x.bestLine(1, 0), cost + 1);
            b.due("pad for " + cost, x.bestLine(1, 1), 0);
        }
        RoundFigures beyond = all(PADDER, 30, 1);
        Bounds.tells(beyond, "cost 120");
        b.due("121 is none of them", beyond.bestLine(1, 0), 1);
        b.due("121 is none of them", beyond.bestLine(1, 1), 30);
        beyond.rule(LINE, 121);
        b.due("nor is the LINE that is", beyond.bestLine(1, 1), 30);
        b.due("the LINE that is stays", beyond.count(2), 121);
    }

    private static void bestLineTies() {
        b.says(16, "the LINE 1 .. 120 with which PAD behind n DAYS is least; of several the least.");
        b.due("of none", new RoundFigures().bestLine(30, 0), 1);
        b.due("of none", new RoundFigures().bestLine(30, 1), 0);
        b.due("honest ones", all(TRAVELLER, 0, 10, 20).bestLine(5, 0), 1);
        b.due("a ghost", all(GHOST, 0, 50).bestLine(5, 0), 1);
        // from 21 to 31 a padder who costs 20 and a ghost who costs 30 pad 0, 1, 2 .. and nothing
        RoundFigures x = all(GHOST, 0, 30);
        x.traveller(PADDER, 20, 9);
        b.due("both", x.bestLine(1, 0), 21);
        // two padders: by 21 the first pads 0, by 41 the second; the other one then pads 5
        RoundFigures two = all(PADDER, 5, 20, 40);
        b.due("of two as good the least", two.bestLine(1, 0), 21);
        b.due("of two as good the least", two.bestLine(1, 1), 5);
    }

    private static void bestLineSigns() {
        b.says(16, "the LINE 1 .. 120 with which PAD behind n DAYS is least");
        // a rounder claims 25 by any line; the look goes to one who claims 30, but by 26 to the rounder
        RoundFigures x = all(TRAVELLER, 0, 30);
        x.traveller(ROUNDER, 21, 0);
        x.rule(LOOKS, 1);
        x.rule(MODE, BY_SIGNS);
        for (int n : new int[] {1, 2, 30}) {
            b.due("line for " + n, x.bestLine(n, 0), 26);
            b.due("pad for " + n, x.bestLine(n, 1), 0);
        }
    }

    private static void bestLineDays() {
        b.says(16, "BEST LINE for n (1 .. 30): what 0 the LINE, 1 PAD. BAD.");
        RoundFigures x = all(PADDER, 5, 20, 40);
        x.days(3);
        for (int n : new int[] {1, 2, 29, 30}) {
            b.due("bestLine(" + n + ", 0)", x.bestLine(n, 0), 21);
            b.due("bestLine(" + n + ", 1)", x.bestLine(n, 1), 30 + 5 * n);
        }
        // by 21 only day 2 is padded, which costs 30; by 31 the two days before it are
        RoundFigures y = all(PADDER, 5, 1);
        Bounds.tells(y, "cost 20+(d=2)*10");
        b.due("bestLine(1, 0)", y.bestLine(1, 0), 21);
        b.due("bestLine(3, 1)", y.bestLine(3, 1), 5);
    }

    private static void bestLineRefused() {
        b.says(16, "1 PAD. BAD.");
        for (int n : new int[] {0, -1, 31, MIN, MAX}) {
            b.refused("bestLine(" + n + ", 0)", BAD, Bounds::some, x -> x.bestLine(n, 0));
        }
        for (int what : new int[] {-1, 2, MIN, MAX}) {
            b.refused("bestLine(1, " + what + ")", BAD, Bounds::some, x -> x.bestLine(1, what));
        }
    }

    // ---- promise 17

    private static RoundFigures ghostsBySigns(int many) {
        RoundFigures x = all(GHOST, 0);
        for (int i = 0; i < many; i++) {
            x.traveller(GHOST, 40, 0);
        }
        x.rule(MODE, BY_SIGNS);
        return x;
    }

    private static void bestLooksBounds() {
        b.says(17, "BEST LOOKS for n and p: the LOOKS 0 .. 8");
        for (int many = 0; many <= 8; many++) {
            b.due("looks at " + many + " for nothing", ghostsBySigns(many).bestLooks(3, 0, 0), many);
            b.due("looks at " + many + " for nothing", ghostsBySigns(many).bestLooks(3, 0, 1), 0);
            b.due("looks at " + many + " for 8", ghostsBySigns(many).bestLooks(3, 8, 0), many);
            b.due("looks at " + many + " for 8", ghostsBySigns(many).bestLooks(3, 8, 1), 3 * 8 * many);
            b.due("looks at " + many + " for 10", ghostsBySigns(many).bestLooks(3, 10, 0), 0);
        }
        RoundFigures x = ghostsBySigns(8);
        x.rule(LOOKS, 5);
        b.due("whatever LOOKS are", x.bestLooks(1, 999, 0), 0);
        b.due("whatever LOOKS are", x.bestLooks(1, 0, 0), 8);
        b.due("they stay", x.count(3), 5);
        b.says(17, "together, are least; of several the least.");
        b.due("each look as dear as what it saves", x.bestLooks(1, 9, 0), 0);
        b.due("each look as dear as what it saves", x.bestLooks(60, 9, 0), 0);
        b.due("honest ones", all(TRAVELLER, 0, 10, 20).bestLooks(9, 0, 0), 0);
    }

    private static void bestLooksSum() {
        b.says(17, "PAD behind n DAYS and p times LOOKS times n, together");
        for (int n : new int[] {1, 2, 59, 60}) {
            for (int p : new int[] {0, 1, 8, 9, 10, 998, 999}) {
                RoundFigures x = ghostsBySigns(8);
                x.days(2);
                int want = 2 * 72 + n * 8 * Math.min(p, 9);
                b.due("bestLooks(" + n + ", " + p + ", 1)", x.bestLooks(n, p, 1), want);
                b.due("bestLooks(" + n + ", " + p + ", 0)", x.bestLooks(n, p, 0), p < 9 ? 8 : 0);
            }
        }
    }

    private static void bestLooksRefused() {
        b.says(17, "BEST LOOKS for n (1 .. 60), p (0 .. 999): what 0 LOOKS, 1 the sum. BAD.");
        for (int n : new int[] {0, -1, 61, MIN, MAX}) {
            b.refused("n " + n, BAD, Bounds::some, x -> x.bestLooks(n, 1, 0));
        }
        for (int p : new int[] {-1, 1000, MIN, MAX}) {
            b.refused("p " + p, BAD, Bounds::some, x -> x.bestLooks(1, p, 0));
        }
        for (int what : new int[] {-1, 2, MIN, MAX}) {
            b.refused("what " + what, BAD, Bounds::some, x -> x.bestLooks(1, 1, what));
        }
    }

    // ---- promise 18

    private static void withoutLeast() {
        b.says(18, "PAD behind n DAYS is least; of several the least. FLAT");
        int[][] rows = {
            // what the three pad, who it is
            {1, 2, 3, 2}, {3, 2, 1, 0}, {2, 3, 1, 1}, {3, 3, 1, 0}, {1, 3, 3, 1}, {3, 1, 3, 0}, {2, 2, 2, 0},
        };
        for (int[] row : rows) {
            for (int n : new int[] {1, 2, 59, 60}) {
                RoundFigures x = all(GHOST, 0, 49 - row[0], 49 - row[1], 49 - row[2]);
                int sum = row[0] + row[1] + row[2];
                b.due("who, for " + n, x.without(n, 0), row[3]);
                b.due("pad, for " + n, x.without(n, 1), n * (sum - row[row[3]]));
            }
        }
        RoundFigures honest = all(TRAVELLER, 0, 10, 20);
        b.due("spends nothing", honest.without(9, 0), 0);
        b.due("spends nothing", honest.without(9, 1), 0);
        // PAD is of all, what was padded before now too
        RoundFigures x = all(GHOST, 0, 48, 44, 46);
        x.days(2);
        b.due("who, behind 2 days", x.without(7, 0), 1);
        b.due("pad, behind 2 days", x.without(7, 1), 2 * 9 + 7 * 4);
    }

    /** A rare state: with all there less is padded than without any one of them, but one is to be named. */
    private static void withoutAnyone() {
        b.says(18, "WITHOUT: the TRAVELLER without whom");
        RoundFigures x = new RoundFigures();
        x.seed(187578);
        x.deal(4);
        x.rule(MODE, BY_SIGNS);
        x.rule(LOOKS, 2);
        b.due("all there are best", x.behind(22, 0) < x.without(22, 1) ? 1 : 0, 1);
        b.due("one is named", x.without(22, 0) >= 0 && x.without(22, 0) < 4 ? 1 : 0, 1);
    }

    private static void withoutBySigns() {
        b.says(18, "(it claims nothing, spends nothing, is never looked at; draws as ever)");
        // claims 20, 15, 11: without the first the look goes to the second
        RoundFigures x = new RoundFigures();
        Bounds.tells(x, "cost n");
        x.rule(LINE, 999);
        x.traveller(PADDER, 19, 1);
        x.traveller(PADDER, 13, 2);
        x.traveller(PADDER, 8, 3);
        x.rule(MODE, BY_SIGNS);
        b.due("without 2: the first is caught, the second pads", x.without(1, 0), 2);
        b.due("without 2: the first is caught, the second pads", x.without(1, 1), 2);
        x.rule(LOOKS, 2);
        b.due("without 2: none is left", x.without(1, 0), 0);
        b.due("none is left", x.without(1, 1), 0);
        // its signs of before now draw no look
        RoundFigures y = new RoundFigures();
        Bounds.tells(y, "cost n");
        y.rule(LINE, 999);
        y.rule(LOOKS, 0);
        y.traveller(PADDER, 20, 0);
        y.traveller(PADDER, 11, 0);
        y.days(6);
        y.set(0, 2, 10);
        y.set(1, 2, 1);
        y.rule(LOOKS, 1);
        y.rule(MODE, BY_SIGNS);
        b.due("without either the other is caught", y.without(1, 1), 0);
        b.due("without either the other is caught", y.without(1, 0), 0);
        // what it claims is in no row: it does not lie
        y.rule(LOOKS, 2);
        b.due("two looks, one is there", y.without(1, 1), 0);
    }

    private static void withoutByLot() {
        b.says(18, "is never looked at; draws as ever");
        int[] pads = {1, 5, 11};
        for (int seed : SEEDS) {
            for (int looks = 0; looks <= 4; looks++) {
                RoundFigures x = all(GHOST, 0, 48, 44, 38);
                x.rule(LOOKS, looks);
                x.seed(seed);
                int n = 5;
                int[] pad = new int[3];
                for (int without = 0; without < 3; without++) {
                    pad[without] = padByLot(seed, n, Math.min(looks, 3), without, pads);
                }
                int best = 0;
                for (int i = 1; i < 3; i++) {
                    best = pad[i] < pad[best] ? i : best;
                }
                b.due("who by " + seed + " with " + looks, x.without(n, 0), best);
                b.due("pad by " + seed + " with " + looks, x.without(n, 1), pad[best]);
            }
        }
    }

    private static int padByLot(int seed, int n, int looks, int without, int[] pads) {
        int sum = 0;
        int draws = 0;
        for (int day = 0; day < n; day++) {
            draws += pads.length;
            int[] left = pads.clone();
            left[without] = 0;
            for (int look = 0; look < looks; look++) {
                draws++;
                left[Bounds.drawn(seed, draws) % pads.length] = 0;
            }
            for (int pad : left) {
                sum += pad;
            }
        }
        return sum;
    }

    private static void withoutOne() {
        b.says(18, "the TRAVELLER without whom");
        RoundFigures x = all(GHOST, 0, 40);
        b.due("the only one", x.without(60, 0), 0);
        b.due("the only one", x.without(60, 1), 0);
        x.rule(LOOKS, 8);
        b.due("the only one, with looks", x.without(60, 1), 0);
        x.rule(MODE, BY_SIGNS);
        b.due("the only one, with looks", x.without(60, 1), 0);
    }

    private static void withoutRefused() {
        b.says(18, "WITHOUT for n (1 .. 60): what 0 who, 1 PAD. BAD; NONE: there are no TRAVELLERS.");
        for (int n : new int[] {0, -1, 61, MIN, MAX}) {
            b.refused("n " + n, BAD, Bounds::some, x -> x.without(n, 0));
            b.refused("n " + n + " of none", BAD, Bounds::nothing, x -> x.without(n, 0));
        }
        for (int what : new int[] {-1, 2, MIN, MAX}) {
            b.refused("what " + what, BAD, Bounds::some, x -> x.without(1, what));
            b.refused("what " + what + " of none", BAD, Bounds::nothing, x -> x.without(1, what));
        }
        for (int n : new int[] {1, 60}) {
            b.refused("who of none", NONE, Bounds::nothing, x -> x.without(n, 0));
            b.refused("pad of none", NONE, Bounds::nothing, x -> x.without(n, 1));
        }
    }

    // ---- promise 19

    private static void flatAsMuchOrMore() {
        b.says(19, "as much as what is CLAIMED more by all in n DAYS, or more.");
        int[][] rows = {{0, 0, 0}, {0, 1, 1}, {1, 1, 1}, {1, 2, 2}, {10, 10, 10}, {10, 11, 11}, {10, 9, 10}, {99, 99, 99}, {99, 98, 99}};
        for (int[] row : rows) {
            for (int n : new int[] {1, 2, 59, 60}) {
                b.due("flat(" + n + ") of " + row[0] + ", " + row[1], all(TRAVELLER, 0, row[0], row[1]).flat(n), row[2]);
            }
        }
        b.says(19, "the least sum a day for each that is, times n and how many there are");
        b.due("22 by 3", all(TRAVELLER, 0, 7, 7, 8).flat(1), 8);
        b.due("21 by 3", all(TRAVELLER, 0, 7, 7, 7).flat(1), 7);
        b.due("20 by 3", all(TRAVELLER, 0, 7, 7, 6).flat(1), 7);
        RoundFigures x = all(TRAVELLER, 0, 0);
        Bounds.tells(x, "cost d=2");
        b.due("nothing in 2 days", x.flat(2), 0);
        b.due("1 in 3 days", x.flat(3), 1);
        Bounds.tells(x, "cost 1+(d=2)");
        b.due("2 in 2 days", x.flat(2), 1);
        b.due("4 in 3 days", x.flat(3), 2);
    }

    private static void flatIsOfWhatComes() {
        b.says(19, "what is CLAIMED more by all in n DAYS");
        RoundFigures x = all(GHOST, 0, 40);
        x.days(9);
        b.due("what was claimed does not count", x.flat(1), 49);
        b.due("what was claimed does not count", x.flat(60), 49);
        x.rule(LOOKS, 1);
        b.due("what is not paid does not count", x.flat(60), 40);
    }

    private static void flatRefused() {
        b.says(19, "FLAT for n (1 .. 60). BAD; NONE: there are no TRAVELLERS.");
        for (int n : new int[] {0, -1, 61, MIN, MAX}) {
            b.refused("flat(" + n + ")", BAD, Bounds::some, x -> x.flat(n));
            b.refused("flat(" + n + ") of none", BAD, Bounds::nothing, x -> x.flat(n));
        }
        b.refused("flat(1) of none", NONE, Bounds::nothing, x -> x.flat(1));
        b.refused("flat(60) of none", NONE, Bounds::nothing, x -> x.flat(60));
    }

    // ---- promise 20

    private static void standsOutMore() {
        b.says(20, "how many of n DAYS a TRAVELLER has more SIGNS than any other at their ends");
        RoundFigures x = all(TRAVELLER, 0, 10, 20, 15);
        for (int who = 0; who < 3; who++) {
            b.due("as many as another", x.standsOut(who, 60), 0);
        }
        x.set(1, 1, 11);
        for (int n : new int[] {1, 2, 59, 60}) {
            b.due("more than any other in " + n, x.standsOut(0, n), n);
            b.due("fewer than another in " + n, x.standsOut(2, n), 0);
        }
        // one day alone ends in 0: it stands among the latest 6 for 6 ends
        RoundFigures y = all(TRAVELLER, 0);
        y.traveller(ROUNDER, 1, 0);
        y.traveller(TENNER, 1, 0);
        y.traveller(TRAVELLER, 1, 0);
        Bounds.tells(y, "cost (d=3)*5+(d=20)*10");
        b.due("the rounder behind the tenner", y.standsOut(0, 60), 0);
        b.due("the tenner, 3 days", y.standsOut(1, 3), 0);
        b.due("the tenner, 4 days", y.standsOut(1, 4), 1);
        b.due("the tenner, 8 days", y.standsOut(1, 8), 5);
        b.due("the tenner, 9 days", y.standsOut(1, 9), 6);
        b.due("the tenner, 10 days", y.standsOut(1, 10), 6);
        b.due("on day 20 all are alike", y.standsOut(1, 60), 6);
    }

    private static void standsOutAlone() {
        b.says(20, "(one that is the only TRAVELLER: if it has SIGNS above 0)");
        b.due("0 signs", all(TRAVELLER, 0, 0).standsOut(0, 60), 0);
        b.due("1 sign", all(TRAVELLER, 0, 5).standsOut(0, 1), 1);
        RoundFigures x = all(TRAVELLER, 0, 1);
        Bounds.tells(x, "cost d+1");
        // 1, 2, 3, 4 have none; 5 has, and stays for 6 ends, with it 10
        b.due("4 days", x.standsOut(0, 4), 0);
        b.due("5 days", x.standsOut(0, 5), 1);
        b.due("20 days", x.standsOut(0, 20), 16);
    }

    private static void standsOutRefused() {
        b.says(20, "STANDS OUT of a TRAVELLER in n (1 .. 60). BAD.");
        for (int n : new int[] {0, -1, 61, MIN, MAX}) {
            b.refused("n " + n, BAD, Bounds::some, x -> x.standsOut(0, n));
        }
        for (int who : new int[] {-1, 3, MIN, MAX}) {
            b.refused("traveller " + who, BAD, Bounds::some, x -> x.standsOut(who, 1));
        }
        b.refused("traveller 8 of 8", BAD, Bounds::full, x -> x.standsOut(8, 1));
        b.refused("traveller 0 of none", BAD, Bounds::nothing, x -> x.standsOut(0, 1));
    }

    // ---- promise 21

    /** A padder who costs 10 a day, at a line far away; a row of floats with these places. */
    private static RoundFigures told(int... places) {
        RoundFigures x = all(PADDER, 3, 10);
        x.rule(LINE, 999);
        x.sheet(0, 1, places.length);
        for (int i = 0; i < places.length; i++) {
            x.mark(0, i, places[i]);
        }
        return x;
    }

    private static void bent(RoundFigures x, int bent, int differences) {
        b.due("BENT", x.bentBy(0, 0, 0), bent);
        b.due("differences", x.bentBy(0, 0, 1), differences);
    }

    private static void bentUpToForty() {
        b.says(21, "the BENT 0 .. 40 with which what it CLAIMED in all behind k DAYS and places k that are numbers (k from 0 on) differ least");
        bent(told(0, 8), 0, 2);
        bent(told(0, 9), 0, 1);
        bent(told(0, 10), 0, 0);
        bent(told(0, 11), 1, 0);
        bent(told(0, 49), 39, 0);
        bent(told(0, 50), 40, 0);
        bent(told(0, 51), 40, 1);
        bent(told(0, 52), 40, 2);
        bent(told(0, 99999), 40, 99949);
        bent(told(0, -99999), 0, 100009);
    }

    private static void bentOfSeveralTheLeast() {
        b.says(21, "(signs left out), together; of several the least.");
        bent(told(), 0, 0);
        bent(told(7), 0, 7);
        bent(told(NONE, NONE), 0, 0);
        // behind 2 days each BENT counts twice: 3 and 4 are as near to 27
        bent(told(NONE, NONE, 27), 3, 1);
        // 5 fits the one, 10 the other, which counts twice
        bent(told(NONE, 15, 40), 10, 5);
        bent(told(0, 11, 22, 34), 1, 1);
        RoundFigures honest = told(0, 5);
        honest.turns(0, TRAVELLER);
        bent(honest, 0, 5);
    }

    private static void bentFromPlaceZero() {
        b.says(21, "behind k DAYS and places k that are numbers (k from 0 on)");
        RoundFigures x = told(13, 13 + 17, 13 + 34);
        x.days(1);
        bent(x, 7, 0);
        x.mark(0, 0, 0);
        bent(x, 7, 13);
        x.mark(0, 0, 26);
        bent(x, 7, 13);
        b.due("its BENT stays", x.told(0, 2), 3);
        b.due("its CLAIMED stays", x.told(0, 4), 13);
    }

    private static void bentOfNumbersAlone() {
        b.says(21, "places k that are numbers");
        bent(told(NONE, NONE, NONE, 3 * 22), 12, 0);
        bent(told(NONE, 22, NONE, 3 * 22), 12, 0);
        bent(told(NONE, 22, 0, 3 * 22), 12, 44);
    }

    private static void bentSignsLeftOut() {
        b.says(21, "differ least (signs left out), together");
        // with 10 they are 10 above, 0, 10 below: 20, not 0
        bent(told(-10, 20, 50), 15, 10 + 5);
        bent(told(5, -5), 0, 20);
    }

    private static void bentOfAllPlaces() {
        b.says(21, "BENT BY a SHEET, for a TRAVELLER");
        int[] places = new int[24];
        for (int k = 0; k < 24; k++) {
            places[k] = k * 30;
        }
        bent(told(places), 20, 0);
        places[23]++;
        bent(told(places), 20, 1);
        // a row of shorts, another traveller
        RoundFigures x = told();
        x.traveller(PADDER, 20, 0);
        x.sheet(3, 0, 2);
        x.mark(3, 1, 25);
        b.due("of shorts, for 1", x.bentBy(3, 1, 0), 5);
        b.due("of shorts, for 0", x.bentBy(3, 0, 0), 15);
    }

    private static void bentCaught() {
        b.says(21, "those who are caught pad less from then on");
        // caught on each day: it is paid what it costs, whatever its BENT is
        RoundFigures x = told(0, 10, 20);
        x.rule(LOOKS, 1);
        bent(x, 0, 0);
        // a ghost has what it has without any BENT
        RoundFigures ghost = told(0, 49);
        ghost.rule(LINE, 50);
        ghost.turns(0, GHOST);
        bent(ghost, 0, 0);
    }

    private static void bentByRefused() {
        b.says(21, "what 0 the BENT, 1 the differences, together. BAD; NOTHING.");
        for (int sheet : new int[] {-1, 4, MIN, MAX}) {
            b.refused("sheet " + sheet, BAD, Bounds::some, x -> x.bentBy(sheet, 0, 0));
        }
        for (int who : new int[] {-1, 3, MIN, MAX}) {
            b.refused("traveller " + who, BAD, Bounds::some, x -> x.bentBy(0, who, 0));
            b.refused("traveller " + who + ", MISSING", BAD, Bounds::some, x -> x.bentBy(3, who, 0));
        }
        for (int what : new int[] {-1, 2, MIN, MAX}) {
            b.refused("what " + what, BAD, Bounds::some, x -> x.bentBy(0, 0, what));
            b.refused("what " + what + ", MISSING", BAD, Bounds::some, x -> x.bentBy(3, 0, what));
        }
        b.refused("MISSING", NOTHING, Bounds::some, x -> x.bentBy(3, 0, 0));
        b.refused("MISSING", NOTHING, Bounds::some, x -> x.bentBy(3, 2, 1));
        b.refused("traveller 0 of none", BAD, Bounds::nothing, x -> x.bentBy(0, 0, 0));
    }

    // ---- promises 22, 23

    private static void fee() {
        b.says(22, "(what fee gives is told by fee(); without a TEXT: PAD)");
        RoundFigures x = all(GHOST, 0, 40);
        b.due("nothing yet", x.fee(), 0);
        x.days(2);
        b.due("PAD", x.fee(), 18);
        Bounds.tells(x, "fee l*100+p");
        b.due("by a TEXT", x.fee(), 18);
        x.rule(LOOKS, 8);
        b.due("by 8 LOOKS", x.fee(), 818);
        Bounds.tells(x, "fee 0-p");
        b.due("below 0", x.fee(), -18);
        Bounds.tells(x, "fee 9999*9999");
        b.due("not held", x.fee(), 99980001);
    }

    private static void fine() {
        b.says(23, "(what fine gives for a TRAVELLER is told by fine(); without a TEXT: SIGNS)");
        RoundFigures x = all(GHOST, 0, 40, 50);
        x.rule(LOOKS, 2);
        x.rule(MODE, BY_SIGNS);
        x.days(1);
        b.due("SIGNS of 0", x.fine(0), 4);
        b.due("SIGNS of 1", x.fine(1), 2);
        Bounds.tells(x, "fine s*10+c");
        b.due("by a TEXT of 0", x.fine(0), 41);
        b.due("by a TEXT of 1", x.fine(1), 20);
        Bounds.tells(x, "fine 0-s");
        b.due("below 0", x.fine(0), -4);
        b.says(23, "What fine gives for a TRAVELLER. BAD.");
        for (int who : new int[] {-1, 3, MIN, MAX}) {
            b.refused("fine(" + who + ")", BAD, Bounds::some, y -> y.fine(who));
        }
        b.refused("fine(8) of 8", BAD, Bounds::full, y -> y.fine(8));
        b.refused("fine(0) of none", BAD, Bounds::nothing, y -> y.fine(0));
    }
}
