/** For each promise its ordinary inputs, the edges that the document names, and wrong inputs. */
public final class PromiseTest {
    private static final int BAD = RoundFigures.BAD, NO = RoundFigures.NO, FULL = RoundFigures.FULL, NONE = RoundFigures.NONE;
    private static final int NOTHING = RoundFigures.NOTHING, KIND = RoundFigures.KIND, INDEX = RoundFigures.INDEX, SIZE = RoundFigures.SIZE;
    private static final int MIN = Integer.MIN_VALUE, MAX = Integer.MAX_VALUE;

    private static int promise;
    private static int wrong;

    private static void due(String call, int got, int want) {
        if (got != want) {
            wrong++;
            System.out.println("promise " + promise + ": " + call + " answered " + got + ", due is " + want);
        }
    }

    /** Tells a text, twelve bytes at a time. */
    private static int tells(RoundFigures x, String s) {
        feeds(x, s);
        return x.text();
    }

    private static void feeds(RoundFigures x, String s) {
        for (int i = 0; i < s.length(); i += 12) {
            x.feed(four(s, i), four(s, i + 4), four(s, i + 8));
        }
        x.trim(s.length());
    }

    private static int four(String s, int at) {
        int v = 0;
        for (int i = at; i < at + 4; i++) {
            v = v << 8 | (i < s.length() ? s.charAt(i) & 255 : 'z');
        }
        return v;
    }

    /** One of each kind, all with the same need and bent, and costs that no lot touches. */
    private static RoundFigures oneOfEach(String cost) {
        RoundFigures x = new RoundFigures();
        for (int kind = 0; kind < 6; kind++) {
            x.traveller(kind, 20, 8);
        }
        tells(x, "cost " + cost);
        return x;
    }

    private static int draw(int z) {
        return z * 1103515245 + 12345;
    }

    public static void main(String[] args) {
        Bounds.watch("PromiseTest");
        aNewObject();
        traveller();
        told();
        claim();
        costs();
        asksFor();
        as();
        turns();
        set();
        deal();
        seed();
        rule();
        days();
        daysBySigns();
        coins();
        behind();
        bestLine();
        bestLooks();
        without();
        flat();
        standsOut();
        bentBy();
        fee();
        fine();
        feed();
        trim();
        textFaults();
        textValues();
        textFull();
        textTold();
        why();
        sheet();
        mark();
        pour();
        reads();
        copy();
        lay();
        ask();
        item();
        rest();
        tell();
        check();
        keep();
        back();
        count();
        System.out.println(wrong == 0 ? "PromiseTest: all answers are as due" : "PromiseTest: " + wrong + " answers are not as due");
        if (wrong != 0) {
            System.exit(1);
        }
    }

    private static void aNewObject() {
        promise = 1;
        RoundFigures x = new RoundFigures();
        int[] first = {0, 0, 50, 1, 0, 0, 0, 0, 1};
        for (int what = 0; what < first.length; what++) {
            due("count(" + what + ")", x.count(what), first[what]);
        }
        for (int sheet = 0; sheet < 4; sheet++) {
            due("reads", x.reads(sheet), NOTHING);
        }
        for (int slot = 0; slot < 5; slot++) {
            due("rest", x.rest(slot, 1), NOTHING);
        }
        for (int key = 0; key < 3; key++) {
            due("why", x.why(key), NONE);
        }
        due("back", x.back(), NO);
        due("fee", x.fee(), 0);
    }

    private static void traveller() {
        promise = 2;
        RoundFigures x = new RoundFigures();
        due("a kind below", x.traveller(-1, 0, 0), BAD);
        due("a kind above", x.traveller(6, 0, 0), BAD);
        due("need below", x.traveller(0, -1, 0), BAD);
        due("need above", x.traveller(0, 100, 0), BAD);
        due("bent below", x.traveller(0, 0, -1), BAD);
        due("bent above", x.traveller(0, 0, 100), BAD);
        due("none came", x.count(0), 0);
        for (int i = 0; i < 8; i++) {
            due("one more", x.traveller(i % 6, i % 2 == 0 ? 0 : 99, i % 2 == 0 ? 99 : 0), i);
        }
        due("the ninth", x.traveller(0, 0, 0), FULL);
        due("BAD ahead of FULL", x.traveller(6, 0, 0), BAD);
        due("eight", x.count(0), 8);
    }

    private static void told() {
        promise = 3;
        RoundFigures x = oneOfEach("44");
        x.rule(1, 0);
        x.days(2);
        // kind, need, bent, spent, claimed, caught, days since, signs, worth
        int[][] want = {
            {0, 20, 8, 88, 88, 0, 2, 3, 20},
            {1, 20, 8, 88, 90, 0, 2, 5, 25},
            {2, 20, 8, 88, 98, 0, 2, 11, 91},
            {3, 20, 8, 88, 100, 0, 2, 7, 50},
            {4, 20, 8, 88, 98, 0, 2, 11, 82},
            {5, 20, 8, 88, 98, 0, 2, 11, 1},
        };
        for (int i = 0; i < want.length; i++) {
            for (int what = 0; what < 9; what++) {
                due("told(" + i + ", " + what + ")", x.told(i, what), want[i][what]);
            }
        }
        x.set(4, 2, 99);
        due("worth below 0", x.told(4, 8), -9);
        due("no such what", x.told(0, 9), BAD);
        due("no such what", x.told(0, -1), BAD);
        due("no such one", x.told(6, 0), BAD);
        due("no such one", x.told(-1, 0), BAD);
        due("no such one", x.told(MIN, MAX), BAD);
        // the signs of six alike: 5 pairs, 6 ends in 0; the line moves them
        tells(x, "cost 60");
        x.days(9);
        due("six alike that end in 0", x.told(0, 7), 6 * 2 + 5 * 3);
        x.rule(0, 61);
        due("just under the line too", x.told(0, 7), 6 * 2 + 5 * 3 + 6 * 4);
        tells(x, "cost 0");
        x.days(6);
        due("claims of 0 are no signs", x.told(0, 7), 0);
        x.rule(0, 1);
        due("nor with the line at 1", x.told(0, 7), 0);
        tells(x, "cost 1");
        x.days(1);
        x.rule(0, 2);
        due("a claim of 1 is one", x.told(0, 7), 4);
    }

    private static void claim() {
        promise = 4;
        RoundFigures x = new RoundFigures();
        x.traveller(0, 1, 0);
        x.rule(1, 0);
        tells(x, "cost 10 + d");
        for (int i = 0; i < 6; i++) {
            due("0 at first", x.claim(0, i), 0);
        }
        x.days(4);
        int[] four = {13, 12, 11, 10, 0, 0};
        for (int i = 0; i < 6; i++) {
            due("of four days", x.claim(0, i), four[i]);
        }
        x.days(4);
        for (int i = 0; i < 6; i++) {
            due("the latest six", x.claim(0, i), 17 - i);
        }
        due("i below", x.claim(0, -1), BAD);
        due("i above", x.claim(0, 6), BAD);
        due("no such one", x.claim(1, 0), BAD);
        due("no such one", x.claim(-1, 0), BAD);
    }

    private static void costs() {
        promise = 5;
        RoundFigures x = new RoundFigures();
        due("none yet", x.costs(0, 0), BAD);
        x.traveller(0, 99, 0);
        due("need and x", x.costs(0, 19), 118);
        due("need", x.costs(0, 0), 99);
        due("x below", x.costs(0, -1), BAD);
        due("x above", x.costs(0, 20), BAD);
        due("no such one", x.costs(1, 0), BAD);
        tells(x, "cost n*x-d");
        due("by a text", x.costs(0, 3), 297);
        due("not above 999", x.costs(0, 19), 999);
        x.days(5);
        due("not below 0", x.costs(0, 0), 0);
        due("by the day", x.costs(0, 1), 94);
    }

    private static void asksFor() {
        promise = 6;
        RoundFigures x = oneOfEach("0");
        int[][] want = {
            // c, then by kind
            {0, 0, 0, 8, 0, 8, 49},
            {1, 1, 5, 9, 10, 9, 49},
            {40, 40, 40, 48, 40, 48, 49},
            {41, 41, 45, 49, 50, 49, 49},
            {42, 42, 45, 49, 50, 49, 49},
            {48, 48, 50, 49, 50, 49, 49},
            {49, 49, 50, 49, 50, 49, 49},
            {50, 50, 50, 58, 50, 58, 50},
            {999, 999, 1000, 1007, 1000, 1007, 999},
        };
        for (int[] row : want) {
            for (int kind = 0; kind < 6; kind++) {
                due("asksFor(" + kind + ", " + row[0] + ")", x.asksFor(kind, row[0]), row[kind + 1]);
            }
        }
        due("c below", x.asksFor(0, -1), BAD);
        due("c above", x.asksFor(0, 1000), BAD);
        due("no such one", x.asksFor(6, 0), BAD);
        due("no such one", x.asksFor(-1, 0), BAD);
        x.rule(0, 999);
        x.rule(1, 0);
        x.days(7);
        due("2 for each day", x.asksFor(4, 100), 122);
        x.days(13);
        due("20 days", x.asksFor(4, 100), 148);
        x.days(30);
        due("20 days at most", x.asksFor(4, 100), 148);
        due("the days themselves go on", x.told(4, 6), 50);
        x.rule(0, 1);
        due("with a line of 1", x.asksFor(5, 0), 0);
        due("with a line of 1", x.asksFor(2, 0), 0);
        due("with a line of 1", x.asksFor(2, 1), 9);
    }

    private static void as() {
        promise = 7;
        RoundFigures x = oneOfEach("0");
        boolean[][] of = {
            {true, false, false, false, false, false},
            {true, true, false, false, false, false},
            {true, false, true, false, false, false},
            {true, true, false, true, false, false},
            {true, false, true, false, true, false},
            {true, false, false, false, false, true},
        };
        for (int i = 0; i < 6; i++) {
            for (int kind = 0; kind < 6; kind++) {
                due("as(" + i + ", " + kind + ")", x.as(i, kind), of[i][kind] ? 20 : KIND);
            }
        }
        due("no such kind", x.as(0, 6), BAD);
        due("no such kind", x.as(0, -1), BAD);
        due("no such one", x.as(6, 0), BAD);
        due("no such one", x.as(-1, 5), BAD);
    }

    private static void turns() {
        promise = 8;
        RoundFigures x = oneOfEach("0");
        x.rule(1, 0);
        x.days(3);
        due("what it was", x.turns(0, 4), 0);
        due("its days stay", x.asksFor(0, 10), 10 + 8 + 6);
        due("the same", x.turns(0, 4), 4);
        due("its worth", x.told(0, 8), 82);
        due("no such kind", x.turns(0, 6), BAD);
        due("no such kind", x.turns(0, -1), BAD);
        due("no such one", x.turns(6, 0), BAD);
        due("as it was", x.told(0, 0), 4);
    }

    private static void set() {
        promise = 9;
        RoundFigures x = oneOfEach("0");
        due("need", x.set(0, 1, 99), 20);
        due("need", x.set(0, 1, 0), 99);
        due("bent", x.set(0, 2, 99), 8);
        due("bent", x.set(0, 2, 0), 99);
        due("what 0", x.set(0, 0, 1), BAD);
        due("what 3", x.set(0, 3, 1), BAD);
        due("v below", x.set(0, 1, -1), BAD);
        due("v above", x.set(0, 1, 100), BAD);
        due("v below", x.set(0, 2, -1), BAD);
        due("v above", x.set(0, 2, 100), BAD);
        due("no such one", x.set(6, 1, 1), BAD);
        due("no such one", x.set(-1, 1, 1), BAD);
        due("nothing changed", x.told(0, 1) + x.told(0, 2), 0);
    }

    private static void deal() {
        promise = 10;
        RoundFigures x = new RoundFigures();
        due("n below", x.deal(0), BAD);
        due("n above", x.deal(9), BAD);
        due("no draw", x.count(8), 1);
        x.seed(77);
        due("six", x.deal(6), 6);
        int z = 77;
        for (int i = 0; i < 6; i++) {
            z = draw(z);
            due("kind", x.told(i, 0), (z >>> 8) % 6);
            z = draw(z);
            due("need", x.told(i, 1), (z >>> 8) % 60);
            z = draw(z);
            due("bent", x.told(i, 2), (z >>> 8) % 30);
        }
        due("z", x.count(8), z);
        due("room for two", x.deal(8), 2);
        for (int i = 0; i < 6; i++) {
            z = draw(z);
        }
        due("no draws for others", x.count(8), z);
        due("no room", x.deal(1), 0);
        due("no draw", x.count(8), z);
    }

    private static void seed() {
        promise = 11;
        RoundFigures x = new RoundFigures();
        due("1 at first", x.seed(MIN), 1);
        due("what it was", x.seed(MAX), MIN);
        due("what it was", x.seed(0), MAX);
        due("it counts", x.count(8), 0);
    }

    private static void rule() {
        promise = 12;
        RoundFigures x = new RoundFigures();
        int[][] bounds = {{0, 1, 999, 50}, {1, 0, 8, 1}, {2, 0, 1, 0}};
        for (int[] b : bounds) {
            due("below", x.rule(b[0], b[1] - 1), BAD);
            due("above", x.rule(b[0], b[2] + 1), BAD);
            due("what it was", x.rule(b[0], b[2]), b[3]);
            due("what it was", x.rule(b[0], b[1]), b[2]);
            due("it counts", x.count(2 + b[0]), b[1]);
        }
        due("no such rule", x.rule(-1, 1), BAD);
        due("no such rule", x.rule(3, 1), BAD);
    }

    private static void days() {
        promise = 13;
        RoundFigures x = new RoundFigures();
        due("n below", x.days(0), BAD);
        due("n above", x.days(101), BAD);
        x.traveller(0, 30, 0);
        x.traveller(2, 30, 9);
        x.seed(5);
        x.rule(1, 2);
        int z = 5;
        int spent = 0;
        int bent = 9;
        int caught = 0;
        for (int day = 0; day < 10; day++) {
            z = draw(z);
            z = draw(z);
            int c = 30 + (z >>> 8) % 20;
            spent += c;
            int above = c + bent >= 50 && c < 50 ? 49 - c : bent;
            boolean seen = false;
            for (int look = 0; look < 2; look++) {
                z = draw(z);
                if ((z >>> 8) % 2 == 1 && !seen) {
                    seen = true;
                    if (above > 0) {
                        caught++;
                        bent /= 2;
                    }
                }
            }
        }
        due("how many were caught", x.days(10), caught);
        due("spent", x.told(1, 3), spent);
        due("bent", x.told(1, 2), bent);
        due("z", x.count(8), z);
        due("the day", x.count(1), 10);

        RoundFigures y = new RoundFigures();
        for (int i = 0; i < 99; i++) {
            y.days(100);
        }
        y.traveller(2, 0, 99);
        y.rule(1, 1);
        y.days(98);
        due("9998", y.count(1), 9998);
        y.set(0, 2, 50);
        due("no more than up to 9999", y.days(100), 1);
        due("9999", y.count(1), 9999);
        y.set(0, 2, 50);
        int was = y.count(8);
        due("none is left", y.days(1), 0);
        due("no draw", y.count(8), was);
    }

    private static void daysBySigns() {
        promise = 13;
        // claims 44, 45, 49, 50, 49, 49: signs of the first day 0, 1, 4, 2, 4, 4
        RoundFigures x = oneOfEach("44");
        x.rule(2, 1);
        x.rule(1, 2);
        due("the first two of those with most signs", x.days(1), 2);
        int[] caught = {0, 0, 1, 0, 1, 0};
        for (int i = 0; i < 6; i++) {
            due("caught " + i, x.told(i, 5), caught[i]);
            due("days since " + i, x.told(i, 6), 1 - caught[i]);
            due("bent " + i, x.told(i, 2), caught[i] == 1 ? 4 : 8);
        }
        due("what is above is not paid", x.told(2, 4), 44);
        due("what was claimed stays", x.claim(2, 0), 49);
        x.rule(1, 8);
        due("all who lie, by more looks than there are", x.days(1), 5);
        due("paid twice as it cost", x.told(2, 4), 88);
        due("no draws for such looks", x.count(8), zAfter(1, 12));
        // one without signs is looked at too
        RoundFigures y = new RoundFigures();
        y.traveller(2, 1, 1);
        tells(y, "cost 1");
        y.rule(2, 1);
        due("without signs", y.days(1), 1);
        due("caught of all", y.coins(3), 1);
        due("none is above what it cost", y.days(1), 0);
        // the first has more signs than those behind it
        RoundFigures w = new RoundFigures();
        w.traveller(5, 1, 0);
        w.traveller(2, 1, 1);
        w.traveller(2, 1, 1);
        w.rule(2, 1);
        tells(w, "cost 1");
        due("the ghost", w.days(1), 1);
        due("the ghost", w.told(0, 5), 1);
        w.rule(1, 0);
        due("no looks", w.days(1), 0);
    }

    private static int zAfter(int z, int draws) {
        int v = z;
        for (int i = 0; i < draws; i++) {
            v = draw(v);
        }
        return v;
    }

    private static void coins() {
        promise = 14;
        RoundFigures x = new RoundFigures();
        due("none stands out", x.coins(4), NONE);
        x = oneOfEach("44");
        due("of several the least", x.coins(4), 0);
        x.rule(1, 0);
        x.days(1);
        due("spent", x.coins(0), 6 * 44);
        due("claimed", x.coins(1), 44 + 45 + 49 + 50 + 49 + 49);
        due("pad", x.coins(2), 22);
        due("caught", x.coins(3), 0);
        due("who stands out", x.coins(4), 2);
        x.rule(1, 8);
        x.rule(2, 1);
        x.days(1);
        due("caught", x.coins(3), 5);
        due("pad", x.coins(2), 22);
        due("what below", x.coins(-1), BAD);
        due("what above", x.coins(5), BAD);
    }

    /** What is only thought must be what comes, and must change nothing. */
    private static void behind() {
        promise = 15;
        RoundFigures x = new RoundFigures();
        x.seed(9);
        x.deal(6);
        x.days(4);
        due("0 days", x.behind(0, 0), x.coins(2));
        due("0 days", x.behind(0, 1), x.coins(1));
        int[] want = new int[9];
        for (int what = 0; what < 9; what++) {
            want[what] = x.behind(100, what);
        }
        due("nothing changes", x.count(1), 4);
        x.days(100);
        due("pad", want[0], x.coins(2));
        due("claimed", want[1], x.coins(1));
        due("caught", want[2], x.coins(3));
        for (int k = 0; k < 6; k++) {
            due("signs", want[3 + k], x.told(k, 7));
        }
        due("what below", x.behind(1, -1), BAD);
        due("what above", x.behind(1, 9), BAD);
        due("n below", x.behind(-1, 0), BAD);
        due("n above", x.behind(101, 0), BAD);
        due("of none", new RoundFigures().behind(1, 3), BAD);

        RoundFigures y = new RoundFigures();
        for (int i = 0; i < 100; i++) {
            y.days(100);
        }
        y.traveller(0, 1, 1);
        tells(y, "cost d-9990");
        due("no bound of the day", y.behind(3, 1), 9 + 10 + 11);
        due("it is bounded", y.days(3) + y.coins(1), 0);
    }

    private static void bestLine() {
        promise = 16;
        RoundFigures x = new RoundFigures();
        due("of none the least", x.bestLine(30, 0), 1);
        x.traveller(5, 0, 0);
        tells(x, "cost 70");
        x.rule(1, 0);
        x.rule(0, 999);
        // up to 71 a ghost claims what it cost
        due("of several the least", x.bestLine(1, 0), 1);
        due("pad", x.bestLine(1, 1), 0);
        x.traveller(2, 0, 30);
        // from 71 on the padder stays under the line, the ghost goes up to it: both 0 at 71
        due("the line", x.bestLine(3, 0), 71);
        due("pad", x.bestLine(3, 1), 0);
        due("n below", x.bestLine(0, 0), BAD);
        due("n above", x.bestLine(31, 0), BAD);
        due("what below", x.bestLine(1, -1), BAD);
        due("what above", x.bestLine(1, 2), BAD);
        due("the line stays", x.count(2), 999);
        tells(x, "cost 130");
        due("not beyond 120", x.bestLine(1, 0), 1);
        due("pad", x.bestLine(1, 1), 30);
        tells(x, "cost 119");
        due("up to 120", x.bestLine(1, 0), 120);
        tells(x, "cost 120");
        due("121 is not thought of", x.bestLine(1, 0), 1);
    }

    private static void bestLooks() {
        promise = 17;
        RoundFigures x = oneOfEach("44");
        x.rule(2, 1);
        // one day: above are 0, 1, 5, 6, 5, 5; looks go to 2, 4, 5, 3, 1, 0
        int[] pad = {22, 17, 12, 7, 1, 0, 0, 0, 0};
        for (int p = 0; p < 9; p++) {
            int best = 0;
            for (int looks = 0; looks < 9; looks++) {
                if (pad[looks] + p * looks < pad[best] + p * best) {
                    best = looks;
                }
            }
            due("looks by " + p, x.bestLooks(1, p, 0), best);
            due("sum by " + p, x.bestLooks(1, p, 1), pad[best] + p * best);
        }
        due("looks stay", x.count(3), 1);
        due("n below", x.bestLooks(0, 1, 0), BAD);
        due("n above", x.bestLooks(61, 1, 0), BAD);
        due("p below", x.bestLooks(1, -1, 0), BAD);
        due("p above", x.bestLooks(1, 1000, 0), BAD);
        due("what below", x.bestLooks(1, 1, -1), BAD);
        due("what above", x.bestLooks(1, 1, 2), BAD);
        due("of none", new RoundFigures().bestLooks(60, 999, 0), 0);
        RoundFigures y = new RoundFigures();
        for (int i = 0; i < 8; i++) {
            y.traveller(2, 1, 1);
        }
        y.rule(2, 1);
        due("all eight", y.bestLooks(1, 0, 0), 8);
        due("none lies unseen", y.bestLooks(1, 0, 1), 0);
    }

    private static void without() {
        promise = 18;
        RoundFigures x = new RoundFigures();
        due("BAD ahead of NONE", x.without(0, 0), BAD);
        due("none", x.without(60, 1), NONE);
        x = oneOfEach("44");
        x.rule(1, 0);
        x.days(1);
        // what was claimed stays: 22; then 22 a day, less that of the one
        due("who", x.without(10, 0), 3);
        due("pad", x.without(10, 1), 22 + 10 * 16);
        x.rule(1, 8);
        x.rule(2, 1);
        due("none lies unseen, the least", x.without(1, 0), 0);
        due("pad", x.without(1, 1), 22);
        // a look goes to the next one: without 2 (the first of the highest signs) 4 is caught
        x.rule(1, 1);
        RoundFigures y = oneOfEach("44");
        y.rule(1, 1);
        y.rule(2, 1);
        due("without 3, 2 caught", y.without(1, 0), 3);
        due("pad", y.without(1, 1), 22 - 6 - 5);
        due("n above", x.without(61, 0), BAD);
        due("n below", x.without(0, 0), BAD);
        due("what below", x.without(1, -1), BAD);
        due("what above", x.without(1, 2), BAD);
        withoutByLot();
    }

    private static void withoutByLot() {
        RoundFigures x = new RoundFigures();
        x.traveller(2, 0, 99);
        x.traveller(2, 0, 99);
        x.traveller(2, 0, 99);
        x.rule(0, 999);
        x.rule(1, 1);
        tells(x, "cost 1");
        x.seed(3);
        int looked = (zAfter(3, 4) >>> 8) % 3;
        // draws as ever: without the one that the lot names, none is caught
        due("by lot", x.without(1, 0), looked == 0 ? 1 : 0);
        due("by lot", x.without(1, 1), 99);
        due("none is away for good", x.behind(1, 0), 2 * 99);
    }

    private static void flat() {
        promise = 19;
        RoundFigures x = new RoundFigures();
        due("BAD ahead of NONE", x.flat(0), BAD);
        due("none", x.flat(1), NONE);
        x.rule(1, 0);
        x.traveller(0, 0, 0);
        x.traveller(1, 0, 0);
        tells(x, "cost 0");
        due("nothing", x.flat(60), 0);
        tells(x, "cost 31");
        x.days(3);
        due("just as much", x.flat(1), 33);
        due("just as much", x.flat(60), 33);
        x.traveller(1, 0, 0);
        due("or more: 101 by 3", x.flat(1), 34);
        x.turns(2, 0);
        due("or more: 97 by 3", x.flat(1), 33);
        due("n above", x.flat(61), BAD);
        due("n below", x.flat(0), BAD);
    }

    private static void standsOut() {
        promise = 20;
        RoundFigures x = new RoundFigures();
        due("no such one", x.standsOut(0, 1), BAD);
        x.rule(1, 0);
        x.traveller(0, 0, 0);
        tells(x, "cost (d=3)*5");
        // a 5 on day 3 stands among the claims on days 3 to 8
        due("the only one", x.standsOut(0, 1), 0);
        due("the only one", x.standsOut(0, 3), 0);
        due("the only one", x.standsOut(0, 4), 1);
        due("the only one", x.standsOut(0, 60), 6);
        x.traveller(0, 0, 0);
        due("as many as another", x.standsOut(0, 60), 0);
        x.turns(1, 3);
        due("fewer than another", x.standsOut(0, 60), 0);
        due("more than another", x.standsOut(1, 60), 6);
        due("n below", x.standsOut(0, 0), BAD);
        due("n above", x.standsOut(0, 61), BAD);
        due("no such one", x.standsOut(2, 1), BAD);
        due("no such one", x.standsOut(-1, 1), BAD);
        due("nothing changes", x.count(1), 0);
    }

    private static void bentBy() {
        promise = 21;
        RoundFigures x = new RoundFigures();
        x.rule(1, 0);
        x.rule(0, 999);
        x.traveller(2, 0, 3);
        tells(x, "cost 10");
        due("missing", x.bentBy(0, 0, 0), NOTHING);
        x.sheet(0, 0, 0);
        due("no places", x.bentBy(0, 0, 0), 0);
        due("no places", x.bentBy(0, 0, 1), 0);
        x.sheet(0, 0, 3);
        x.mark(0, 1, 34);
        x.mark(0, 2, 68);
        due("the bent", x.bentBy(0, 0, 0), 24);
        due("differences", x.bentBy(0, 0, 1), 0);
        x.mark(0, 2, 69);
        due("the bent", x.bentBy(0, 0, 0), 24);
        due("differences", x.bentBy(0, 0, 1), 1);
        x.mark(0, 2, 300);
        due("40 at most", x.bentBy(0, 0, 0), 40);
        due("differences", x.bentBy(0, 0, 1), 16 + 200);
        x.days(1);
        // 13 was claimed
        x.sheet(1, 1, 3);
        x.mark(1, 0, NONE);
        x.mark(1, 1, NONE);
        x.mark(1, 2, 13 + 2 * 17);
        due("numbers alone, claimed in all", x.bentBy(1, 0, 0), 7);
        due("differences", x.bentBy(1, 0, 1), 0);
        x.mark(1, 0, 3);
        due("place 0 is of now", x.bentBy(1, 0, 1), 10);
        x.mark(1, 0, NONE);
        x.mark(1, 1, 0);
        x.mark(1, 2, 47);
        due("of several the least", x.bentBy(1, 0, 1), 30);
        due("its bent stays", x.told(0, 2), 3);
        due("no such sheet", x.bentBy(4, 0, 0), BAD);
        due("no such sheet", x.bentBy(-1, 0, 0), BAD);
        due("no such one", x.bentBy(0, 1, 0), BAD);
        due("no such what", x.bentBy(0, 0, 2), BAD);
        due("BAD ahead of NOTHING", x.bentBy(3, 1, 0), BAD);
        due("missing", x.bentBy(3, 0, 0), NOTHING);
    }

    private static void fee() {
        promise = 22;
        RoundFigures x = oneOfEach("44");
        x.rule(1, 0);
        x.days(1);
        due("pad", x.fee(), 22);
        tells(x, "fee 0-p*100-l");
        due("by a text, not held", x.fee(), -2200);
        x.rule(1, 7);
        due("by the looks", x.fee(), -2207);
    }

    private static void fine() {
        promise = 23;
        RoundFigures x = oneOfEach("44");
        x.rule(1, 1);
        x.rule(2, 1);
        x.days(1);
        due("signs", x.fine(2), 4);
        due("signs", x.fine(0), 0);
        tells(x, "fine s*10+c");
        due("by a text", x.fine(2), 41);
        due("by a text", x.fine(4), 40);
        due("no such one", x.fine(6), BAD);
        due("no such one", x.fine(-1), BAD);
    }

    private static void feed() {
        promise = 24;
        RoundFigures x = new RoundFigures();
        for (int i = 1; i <= 8; i++) {
            due("twelve more", x.feed(0, 0, 0), 12 * i);
        }
        due("more than 96", x.feed(0, 0, 0), FULL);
        due("96", x.count(7), 96);
        x.trim(85);
        due("more than 96", x.feed(0, 0, 0), FULL);
        x.trim(84);
        due("just 96", x.feed(0, 0, 0), 96);
        x.trim(0);
        // "fee ", "12+3", "    ": the highest byte first
        x.feed(0x66656520, 0x31322b33, 0x20202020);
        due("a text", x.text(), 0);
        due("fee", x.fee(), 15);
        x.feed(0xff656520, 0, 0);
        due("bytes above 127 are signs", x.text(), -100);
    }

    private static void trim() {
        promise = 25;
        RoundFigures x = new RoundFigures();
        due("of none", x.trim(0), 0);
        due("above", x.trim(1), BAD);
        x.feed(1, 2, 3);
        due("above", x.trim(13), BAD);
        due("below", x.trim(-1), BAD);
        due("all", x.trim(12), 12);
        due("some", x.trim(5), 5);
        due("above now", x.trim(6), BAD);
        due("5", x.count(7), 5);
    }

    private static void faultAt(String s, int place) {
        RoundFigures x = new RoundFigures();
        due("'" + s + "'", tells(x, s), place < 0 ? 0 : -100 - place);
        due("the tape is used up", x.count(7), 0);
        due("texts", x.count(5), place < 0 ? 1 : 0);
    }

    private static void textFaults() {
        promise = 26;
        int good = -1;
        faultAt("", 0);
        faultAt("   ", 3);
        faultAt("cost", 4);
        faultAt("cost ", 5);
        faultAt("  cost n  ", good);
        faultAt("cost(n)", good);
        faultAt("cost!n", good);
        faultAt("cost5", 4);
        faultAt("cost 5", good);
        faultAt("costn", 0);
        faultAt("costs n", 0);
        faultAt("costa n", 0);
        faultAt("costz n", 0);
        faultAt("bost n", 0);
        faultAt("cose n", 0);
        faultAt("mine s", 0);
        faultAt("cos t", 0);
        faultAt(" Cost n", 1);
        faultAt("5 n", 0);
        faultAt("(cost n)", 0);
        faultAt("cost n x", 7);
        faultAt("cost 5n", 6);
        faultAt("cost n5", 6);
        faultAt("cost nx", 5);
        faultAt("cost p", 5);
        faultAt("cost s", 5);
        faultAt("fee n", 4);
        faultAt("fee c", 4);
        faultAt("fine p", 5);
        faultAt("fine d", 5);
        faultAt("fee p+l", good);
        faultAt("fine s+c", good);
        faultAt("cost n+x+d", good);
        faultAt("cost cost", 5);
        faultAt("cost 9999", good);
        faultAt("cost 0000", good);
        faultAt("cost 00000", 5);
        faultAt("cost 1+10000", 7);
        faultAt("cost 1 2", 7);
        faultAt("cost -1", 5);
        faultAt("cost 1--1", 7);
        faultAt("cost 1-", 7);
        faultAt("cost 1 - ", 9);
        faultAt("cost n<x<d", 8);
        faultAt("cost n<x=d", 8);
        faultAt("cost (n<x)<d", good);
        faultAt("cost n<x&d>1|n=2", good);
        faultAt("cost n<(x>d)", good);
        faultAt("cost n<=x", 7);
        faultAt("cost n&&x", 7);
        faultAt("cost n||x", 7);
        faultAt("cost ()", 6);
        faultAt("cost (n", 7);
        faultAt("cost (n x)", 8);
        faultAt("cost n)", 6);
        faultAt("cost (n))", 8);
        faultAt("cost n!", 6);
        faultAt("cost n(x)", 6);
        faultAt("cost !", 6);
        faultAt("cost !!n", good);
        faultAt("cost ! ( ! n )", good);
        faultAt("cost n\tx", 6);
        faultAt("cost\tn", 4);
        faultAt("cost n\u0000", 6);
        faultAt("cost n\u00e9", 6);
        faultAt("cost N", 5);
        faultAt("cost n.", 6);
        faultAt("cost ((((((((n))))))))", good);
        faultAt("cost (((((((((n)))))))))", 13);
        faultAt("cost ((((((((n)))))))) + ((((((((x))))))))", good);
        faultAt("cost !!!!!!!!n", good);
        faultAt("cost !!!!!!!!!n", 13);
        faultAt("cost !!!!!!!!n*!!!!!!!!x", good);
        faultAt("cost !(!(!(!(!(!(!(!(n))))))))", good);
        faultAt("cost !(!(!(!(!(!(!(!(!n))))))))", 21);
        faultAt("cost !(!(!(!(!(!(!(!((n)))))))))", 21);
        faultAt("cost !(!!!!!!!n+!!!!!!!x)", good);
        faultAt("cost !(!!!!!!!n+!!!!!!!!x)", 23);
        faultAt("cost n" + "+1".repeat(45), good);
        faultAt("cost n" + "+1".repeat(44) + "+ ", 96);
    }

    private static void gives(String text, int want) {
        RoundFigures x = new RoundFigures();
        x.rule(1, 7);
        due("'" + text + "'", tells(x, text), 0);
        due("what '" + text + "' gives", x.fee(), want);
    }

    private static void textValues() {
        promise = 26;
        gives("fee l", 7);
        gives("fee p", 0);
        gives("fee 0012", 12);
        gives("fee 1+2*3", 7);
        gives("fee (1+2)*3", 9);
        gives("fee 10-3-2", 5);
        gives("fee 100/7/2", 7);
        gives("fee 2*7/3", 4);
        gives("fee (0-7)/2", -3);
        gives("fee 5/0", 0);
        gives("fee 5/(l-7)+1", 1);
        gives("fee 9999*9999*9999", 9999 * 9999 * 9999);
        gives("fee (0-8192*8192*32-8192*8192*0)/(0-1)", MIN);
        gives("fee 3<4", 1);
        gives("fee 4<4", 0);
        gives("fee 4=4", 1);
        gives("fee 4=5", 0);
        gives("fee 5>4", 1);
        gives("fee 4>4", 0);
        gives("fee 1+1<1+2", 1);
        gives("fee 5&3", 1);
        gives("fee 5&0", 0);
        gives("fee 0|0", 0);
        gives("fee 0|9", 1);
        gives("fee 1|0&0", 1);
        gives("fee (1|0)&0", 0);
        gives("fee 0&0|1", 1);
        gives("fee 1<2&3>2", 1);
        gives("fee !0", 1);
        gives("fee !7", 0);
        gives("fee !!7", 1);
        gives("fee !0*5", 5);
        gives("fee !(0*5)", 1);
        gives("fee !0+1", 2);
        gives("fee 5|1/0", 1);
        gives("fee 8-(4-(2-1))", 5);
    }

    private static void textFull() {
        promise = 26;
        RoundFigures x = new RoundFigures();
        for (int i = 0; i < 14; i++) {
            due("one more", tells(x, "fee " + i), i);
        }
        due("the fifteenth", tells(x, "fee 99"), FULL);
        due("the tape is used up", x.count(7), 0);
        due("a fault ahead of FULL", tells(x, "fee x"), -104);
        due("the last counts", x.fee(), 13);
        due("14", x.count(5), 14);
    }

    private static void textTold() {
        promise = 27;
        RoundFigures x = new RoundFigures();
        due("none", x.textTold(0, 0), BAD);
        tells(x, "fine 1+(s*c)/22-!3");
        tells(x, "cost n");
        tells(x, "fee p|p|p");
        int[][] want = {{2, 5}, {0, 1}, {1, 3}};
        for (int i = 0; i < 3; i++) {
            due("key", x.textTold(i, 0), want[i][0]);
            due("numbers and names", x.textTold(i, 1), want[i][1]);
        }
        due("no such text", x.textTold(3, 0), BAD);
        due("no such text", x.textTold(-1, 0), BAD);
        due("no such what", x.textTold(0, 2), BAD);
        due("no such what", x.textTold(0, -1), BAD);
    }

    private static void why() {
        promise = 28;
        RoundFigures x = new RoundFigures();
        due("none", x.why(0), NONE);
        tells(x, "cost n");
        tells(x, "fine s");
        tells(x, "cost x");
        due("told last", x.why(0), 2);
        due("none", x.why(1), NONE);
        due("fine", x.why(2), 1);
        due("below", x.why(-1), BAD);
        due("above", x.why(3), BAD);
    }

    private static void sheet() {
        promise = 29;
        RoundFigures x = new RoundFigures();
        due("no such sheet", x.sheet(4, 0, 1), BAD);
        due("no such sheet", x.sheet(-1, -1, 1), BAD);
        due("no such sort", x.sheet(0, 2, 1), BAD);
        due("no such sort", x.sheet(0, -2, 1), BAD);
        due("above 24", x.sheet(0, 0, 25), BAD);
        due("below 0", x.sheet(0, 1, -1), SIZE);
        due("below 0", x.sheet(0, 1, MIN), SIZE);
        due("BAD ahead of SIZE", x.sheet(4, 1, -1), BAD);
        due("still missing", x.mark(0, 0, 0), NOTHING);
        due("24", x.sheet(0, 1, 24), 24);
        due("the last place", x.mark(0, 23, 9), 1);
        due("anew", x.sheet(0, 0, 24), 24);
        x.lay(0, 2, 0);
        due("all 0", x.item(0, 23), 0);
        due("no places", x.sheet(0, 0, 0), 0);
        due("no place", x.mark(0, 0, 1), INDEX);
        due("missing, n any", x.sheet(0, -1, 99), 0);
        due("missing", x.mark(0, 0, 1), NOTHING);
        due("missing, n any", x.sheet(0, -1, -99), 0);
        x.sheet(1, 1, 2);
        x.mark(1, 0, NONE);
        x.sheet(1, 1, 3);
        x.lay(0, 2, 1);
        due("all numbers", x.item(0, 0), 0);
    }

    private static void mark() {
        promise = 30;
        RoundFigures x = new RoundFigures();
        due("no such sheet", x.mark(4, 0, 0), BAD);
        due("no such sheet", x.mark(-1, 0, 0), BAD);
        due("missing", x.mark(0, -1, NONE), NOTHING);
        x.sheet(0, 0, 2);
        x.sheet(1, 1, 2);
        due("no such place", x.mark(0, 2, NONE), INDEX);
        due("no such place", x.mark(0, -1, 0), INDEX);
        due("no such place", x.mark(1, 2, MAX), INDEX);
        due("no number among shorts", x.mark(0, 0, NONE), KIND);
        due("too high a float", x.mark(1, 0, 100000), BAD);
        due("too low a float", x.mark(1, 0, -100000), BAD);
        due("a float", x.mark(1, 0, 99999), 1);
        due("a float", x.mark(1, 1, -99999), 1);
        x.lay(0, 2, 1);
        due("a float", x.item(0, 0), 99999);
        due("a float", x.item(0, 1), -99999);
        due("no number", x.mark(1, 1, NONE), 1);
        x.lay(0, 2, 1);
        due("no number", x.item(0, 1), KIND);
        int[][] shorts = {{32767, 32767}, {32768, -32768}, {65535, -1}, {65536, 0}, {-32769, 32767}, {MIN, 0}, {MAX, -1}};
        for (int[] s : shorts) {
            due("a short", x.mark(0, 0, s[0]), 1);
            x.lay(0, 2, 0);
            due("its lowest 16 bits", x.item(0, 0), s[1]);
        }
    }

    private static void pour() {
        promise = 31;
        RoundFigures x = oneOfEach("0");
        due("no such sheet", x.pour(4), BAD);
        due("no such sheet", x.pour(-1), BAD);
        due("missing", x.pour(0), NOTHING);
        x.sheet(0, 1, 5);
        x.mark(0, 0, -7);
        x.mark(0, 1, 100);
        x.mark(0, 2, NONE);
        x.mark(0, 3, 20);
        x.mark(0, 4, 21);
        due("otherwise", x.pour(0), 3);
        int[] needs = {0, 99, 20, 20, 21, 20};
        for (int i = 0; i < 6; i++) {
            due("need " + i, x.told(i, 1), needs[i]);
        }
        due("again", x.pour(0), 0);
        x.sheet(1, 0, 24);
        due("more places than travellers", x.pour(1), 5);
    }

    private static void reads() {
        promise = 32;
        RoundFigures x = oneOfEach("44");
        due("no such sheet", x.reads(4), BAD);
        due("no such sheet", x.reads(-1), BAD);
        due("missing", x.reads(0), NOTHING);
        x.sheet(0, 0, 0);
        due("no places", x.reads(0), NONE);
        x.sheet(0, 1, 8);
        due("no such traveller", x.reads(0), 6);
        x.mark(0, 6, NONE);
        due("no such traveller", x.reads(0), 7);
        x.mark(0, 7, NONE);
        due("none", x.reads(0), NONE);
        x.rule(1, 0);
        x.days(1);
        int[] claims = {44, 45, 49, 50, 49, 49};
        for (int i = 0; i < 6; i++) {
            due("the first that is not", x.reads(0), i);
            x.mark(0, i, claims[i]);
        }
        due("none", x.reads(0), NONE);
        x.mark(0, 1, 46);
        x.mark(0, 3, 46);
        due("the first that is not", x.reads(0), 1);
        x.mark(0, 1, NONE);
        due("of numbers alone", x.reads(0), 3);
    }

    private static void copy() {
        promise = 33;
        RoundFigures x = new RoundFigures();
        due("no such sheet", x.copy(4, 0, 0, 0, 0), BAD);
        due("no such sheet", x.copy(0, 0, -1, 0, 0), BAD);
        due("missing", x.copy(0, 0, 0, 0, 0), NOTHING);
        x.sheet(0, 0, 5);
        x.sheet(1, 1, 5);
        x.sheet(2, 0, 3);
        due("missing", x.copy(0, 0, 3, 0, 0), NOTHING);
        due("missing", x.copy(3, 0, 0, 0, 0), NOTHING);
        due("another sort, ahead of INDEX", x.copy(0, 9, 1, 0, 0), KIND);
        for (int i = 0; i < 5; i++) {
            x.mark(0, i, i + 1);
        }
        int[][] outside = {{0, 4}, {3, 3}, {-1, 1}, {6, 0}, {0, -1}, {MAX, 1}, {1, MAX}, {MIN, MIN}, {MAX, MAX}};
        for (int[] o : outside) {
            due("no such place", x.copy(0, o[0], 2, 0, o[1]), INDEX);
        }
        due("no such place there", x.copy(0, 0, 2, 1, 3), INDEX);
        due("no such place there", x.copy(0, 0, 2, -1, 1), INDEX);
        due("no such place there", x.copy(0, 0, 2, 4, 0), INDEX);
        due("none, at the ends", x.copy(0, 5, 2, 3, 0), 0);
        due("some", x.copy(0, 2, 2, 1, 2), 2);
        row(x, 2, 0, 3, 4);
        due("the same, forwards", x.copy(0, 0, 0, 1, 4), 4);
        row(x, 0, 1, 1, 2, 3, 4);
        due("the same, backwards", x.copy(0, 1, 0, 0, 4), 4);
        row(x, 0, 1, 2, 3, 4, 4);
        x.mark(1, 0, NONE);
        due("no number too", x.copy(1, 0, 1, 4, 1), 1);
        x.lay(0, 2, 1);
        due("no number too", x.item(0, 4), KIND);
    }

    private static void row(RoundFigures x, int sheet, int... want) {
        x.lay(4, 2, sheet);
        for (int i = 0; i < want.length; i++) {
            due("place " + i, x.item(4, i), want[i]);
        }
    }

    private static void lay() {
        promise = 34;
        RoundFigures x = new RoundFigures();
        due("no such slot", x.lay(5, 0, 0), BAD);
        due("no such slot", x.lay(-1, 0, 0), BAD);
        due("no such thing", x.lay(0, 4, 0), BAD);
        due("no such thing", x.lay(0, -1, 0), BAD);
        due("no such traveller", x.lay(0, 1, 0), BAD);
        due("no such sheet", x.lay(0, 2, 4), BAD);
        due("no such sheet", x.lay(0, 2, -1), BAD);
        due("missing", x.lay(0, 2, 0), NOTHING);
        x.traveller(0, 10, 0);
        x.sheet(0, 0, 1);
        due("held nothing", x.lay(0, 1, 0), 0);
        due("held a traveller", x.lay(0, 2, 0), 1);
        due("held a sheet", x.lay(0, 3, MIN), 2);
        due("held a number", x.lay(0, 0, 77), 3);
        due("held nothing", x.lay(0, 0, 0), 0);
        x.lay(0, 3, 5);
        due("missing", x.lay(0, 2, 1), NOTHING);
        due("it still holds the number", x.rest(0, 9), 5);
        x.lay(1, 2, 0);
        x.mark(0, 0, 3);
        due("a row of its own", x.item(1, 0), 0);
        x.sheet(0, -1, 0);
        due("for good", x.item(1, 0), 0);
    }

    private static void ask() {
        promise = 35;
        RoundFigures x = oneOfEach("0");
        int[] worth = {20, 25, 91, 50, 82, 1};
        for (int i = 0; i < 6; i++) {
            x.lay(0, 1, i);
            for (int kind = 0; kind < 6; kind++) {
                boolean of = x.as(i, kind) != KIND;
                due("ask of " + i + " as " + kind, x.ask(0, kind), of ? worth[i] : KIND);
            }
        }
        x.lay(0, 1, 2);
        x.turns(2, 0);
        x.set(2, 2, 50);
        due("as it was then", x.ask(0, 2), 91);
        due("no such slot", x.ask(5, 0), BAD);
        due("no such slot", x.ask(-1, 0), BAD);
        due("no such kind", x.ask(0, 6), BAD);
        due("BAD ahead of NOTHING", x.ask(1, -1), BAD);
        due("nothing", x.ask(1, 0), NOTHING);
        x.lay(1, 3, 4);
        due("a number", x.ask(1, 0), KIND);
        x.sheet(0, 0, 1);
        x.lay(1, 2, 0);
        due("a sheet", x.ask(1, 0), KIND);
    }

    private static void item() {
        promise = 36;
        RoundFigures x = oneOfEach("0");
        due("no such slot", x.item(5, 0), BAD);
        due("no such slot", x.item(-1, 0), BAD);
        due("nothing", x.item(0, 0), NOTHING);
        x.lay(0, 1, 0);
        due("a traveller", x.item(0, 0), KIND);
        x.lay(0, 3, 0);
        due("a number", x.item(0, 0), KIND);
        x.sheet(0, 1, 2);
        x.mark(0, 0, 12345);
        x.mark(0, 1, NONE);
        x.lay(0, 2, 0);
        due("a place", x.item(0, 0), 12345);
        due("no number", x.item(0, 1), KIND);
        due("no such place", x.item(0, 2), INDEX);
        due("no such place", x.item(0, -1), INDEX);
    }

    private static void rest() {
        promise = 37;
        RoundFigures x = oneOfEach("0");
        due("no such slot", x.rest(5, 0), BAD);
        due("no such slot", x.rest(-1, 0), BAD);
        due("nothing", x.rest(0, 0), NOTHING);
        x.lay(0, 1, 0);
        due("a traveller", x.rest(0, 0), KIND);
        x.lay(0, 3, MIN);
        due("by 0", x.rest(0, 0), NO);
        due("by -1", x.rest(0, -1), 0);
        due("by 10", x.rest(0, 10), -8);
        x.lay(0, 3, 17);
        due("by -5", x.rest(0, -5), 2);
    }

    private static void tell() {
        promise = 38;
        RoundFigures x = new RoundFigures();
        for (int i = 1; i <= 60; i++) {
            due("one more", x.tell(i), i);
        }
        due("60 wait", x.tell(0), FULL);
        due("60", x.count(6), 60);
    }

    private static void check() {
        promise = 39;
        RoundFigures x = new RoundFigures();
        x.tell(1);
        due("BAD ahead of NO", x.check(0), BAD);
        due("none waits", x.count(6), 0);
        x.tell(1);
        due("no image", x.check(1), NO);
        due("none waits", x.count(6), 0);
        int[] rows = new int[60];
        x = withImage();
        for (int i = 0; i < 30; i++) {
            x.days(1);
            rows[2 * i] = x.coins(1);
            rows[2 * i + 1] = x.coins(2);
        }
        for (int n : new int[] {1, 2, 13, 30}) {
            x = withImage();
            x.days(8);
            x.rule(0, 7);
            x.traveller(0, 0, 0);
            told(x, rows, 2 * n);
            due("all " + n, x.check(n), 0);
            due("none waits", x.count(6), 0);
            told(x, rows, 2 * n - 1);
            due("one is missing", x.check(n), 2 * n);
            if (n < 30) {
                told(x, rows, 2 * n + 1);
                due("one too many", x.check(n), 2 * n + 1);
            }
            for (int i = 0; i < 2 * n; i += 3) {
                x = withImage();
                rows[i]++;
                told(x, rows, 2 * n);
                due("the first that is not", x.check(n), 1 + i);
                rows[i]--;
            }
        }
        due("all are missing", x.check(3), 1);
        due("n above", x.check(31), BAD);
        checkAtTheEnd();
    }

    private static RoundFigures withImage() {
        RoundFigures x = new RoundFigures();
        x.seed(6);
        x.deal(7);
        x.days(5);
        x.keep();
        return x;
    }

    private static void told(RoundFigures x, int[] rows, int many) {
        for (int i = 0; i < many; i++) {
            x.tell(rows[i]);
        }
    }

    private static void checkAtTheEnd() {
        RoundFigures x = new RoundFigures();
        for (int i = 0; i < 99; i++) {
            x.days(100);
        }
        x.days(98);
        x.traveller(0, 0, 0);
        tells(x, "cost 5");
        x.keep();
        x.tell(5);
        x.tell(0);
        due("one day is left", x.check(30), 0);
        x.days(1);
        x.tell(5);
        x.tell(0);
        due("by the image", x.check(30), 0);
        x.keep();
        due("no day is left", x.check(30), 0);
        x.tell(5);
        due("one too many", x.check(30), 1);
    }

    private static void keep() {
        promise = 40;
        RoundFigures x = new RoundFigures();
        due("none", x.keep(), 0);
        x.deal(3);
        due("three", x.keep(), 3);
        x.deal(3);
        due("the last is kept", x.back(), 3);
    }

    private static void back() {
        promise = 41;
        RoundFigures x = new RoundFigures();
        due("no image", x.back(), NO);
        x.deal(4);
        x.rule(0, 77);
        x.rule(1, 3);
        x.rule(2, 1);
        tells(x, "cost n+3");
        x.days(7);
        x.keep();
        int[] want = answers(x);
        for (int round = 0; round < 3; round++) {
            change(x);
            due("how many", x.back(), 4);
            int[] got = answers(x);
            for (int i = 0; i < want.length; i++) {
                due("answer " + i + " of round " + round, got[i], want[i]);
            }
            due("sheets stay", x.reads(0), 0);
            due("slots stay", x.rest(0, 10), 7);
            due("numbers that wait stay", x.count(6), round + 1);
            due("the tape stays", x.count(7), 12);
            x.trim(0);
        }
        comesAnew();
    }

    /** What came behind the image leaves nothing to those who come in its place. */
    private static void comesAnew() {
        RoundFigures x = new RoundFigures();
        x.keep();
        x.traveller(2, 40, 9);
        tells(x, "cost n");
        x.days(7);
        // caught on the first day: half of 9 on the second
        due("claimed", x.claim(0, 5), 44);
        x.back();
        due("no such text", x.textTold(0, 0), BAD);
        x.traveller(0, 1, 2);
        for (int what = 3; what < 8; what++) {
            due("0 at first", x.told(0, what), 0);
        }
        for (int i = 0; i < 6; i++) {
            due("0 at first", x.claim(0, i), 0);
        }
        due("the number is free again", tells(x, "fee 3"), 0);
    }

    private static void change(RoundFigures x) {
        x.turns(0, 5);
        x.set(1, 1, 3);
        x.deal(2);
        tells(x, "cost x");
        tells(x, "fee 3");
        x.rule(0, 5);
        x.rule(1, 8);
        x.rule(2, 0);
        x.days(9);
        x.sheet(0, 0, 1);
        x.mark(0, 0, -1);
        x.lay(0, 3, 7);
        x.tell(4);
        x.feed(0, 0, 0);
    }

    private static int[] answers(RoundFigures x) {
        int[] all = new int[6 + 3 + 4 * 15 + 1];
        int at = 0;
        for (int what : new int[] {0, 1, 2, 3, 4, 5}) {
            all[at++] = x.count(what);
        }
        for (int key = 0; key < 3; key++) {
            all[at++] = x.why(key);
        }
        for (int i = 0; i < 4; i++) {
            for (int what = 0; what < 9; what++) {
                all[at++] = x.told(i, what);
            }
            for (int k = 0; k < 6; k++) {
                all[at++] = x.claim(i, k);
            }
        }
        all[at++] = x.count(8);
        return all;
    }

    private static void count() {
        promise = 42;
        RoundFigures x = oneOfEach("44");
        x.days(3);
        x.rule(0, 60);
        x.rule(1, 4);
        x.rule(2, 1);
        x.tell(1);
        x.tell(1);
        feeds(x, "12345");
        x.seed(-9);
        int[] want = {6, 3, 60, 4, 1, 1, 2, 5, -9};
        for (int what = 0; what < want.length; what++) {
            due("count(" + what + ")", x.count(what), want[what]);
        }
        due("below", x.count(-1), BAD);
        due("above", x.count(9), BAD);
    }
}
