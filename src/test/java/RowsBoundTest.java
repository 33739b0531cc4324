/** Terms 5 and promises 38 to 42, sentence by sentence: at each bound, right inside it, right outside it. */
public final class RowsBoundTest {
    private static final int BAD = Bounds.BAD, NO = Bounds.NO, FULL = Bounds.FULL, NONE = Bounds.NONE, MIN = Bounds.MIN, MAX = Bounds.MAX;
    private static final int NOTHING = Bounds.NOTHING;
    private static final int GHOST = 5;
    private static final Bounds b = new Bounds("RowsBoundTest");

    public static void main(String[] args) {
        sixtyWait();
        tellFull();
        daysTold();
        firstThatIsNot();
        missingOnes();
        missingBehindOthers();
        oneTooMany();
        noneWaitThen();
        upToThirtyDays();
        fewerDays();
        byTheImage();
        checkChangesNothingElse();
        checkRefused();
        keepTells();
        keptAgain();
        backTells();
        allButFour();
        againAndAgain();
        imagesTexts();
        backRefused();
        counts();
        countRefused();
        fiveHundredAndTwelve();
        b.end(38, 42);
    }

    /** A ghost who costs 40 and is paid 49: behind k days 49 k are claimed, 9 k of it are padded. */
    private static RoundFigures ghost() {
        RoundFigures x = new RoundFigures();
        Bounds.tells(x, "cost n");
        x.rule(1, 0);
        x.traveller(GHOST, 40, 0);
        return x;
    }

    private static void rows(RoundFigures x, int firstDay, int numbers) {
        for (int i = 0; i < numbers; i++) {
            int day = firstDay + i / 2;
            x.tell(i % 2 == 0 ? 49 * day : 9 * day);
        }
    }

    // ---- promise 38

    private static void sixtyWait() {
        b.says(38, "One more number waits: how many.");
        RoundFigures x = new RoundFigures();
        for (int i = 1; i <= 60; i++) {
            int v = i == 1 ? MIN : i == 2 ? MAX : i == 3 ? NONE : i;
            b.due("tell " + i, x.tell(v), i);
            b.due("count(6)", x.count(6), i);
        }
        b.due("tell 61", x.tell(0), FULL);
        b.due("count(6)", x.count(6), 60);
        x.check(1);
        b.due("from the first again", x.tell(0), 1);
    }

    private static void tellFull() {
        b.says(38, "FULL: 60 wait.");
        b.refused("tell", FULL, Bounds::full, x -> x.tell(7));
        b.refused("tell", FULL, Bounds::full, x -> x.tell(NONE));
    }

    // ---- promise 39

    private static void daysTold() {
        b.says(39, "THE DAYS TOLD: of n DAYS, one behind the other, by THE IMAGE: CLAIMED of all, together; PAD, behind each.");
        for (int n : new int[] {1, 2, 29, 30}) {
            RoundFigures x = ghost();
            x.keep();
            rows(x, 1, 2 * n);
            b.due("check(" + n + ")", x.check(n), 0);
        }
        RoundFigures x = ghost();
        x.traveller(1, 21, 0);
        x.days(4);
        x.keep();
        // 49 and 25 a day, 9 and 4 of it padded; in all, not of these days alone
        x.tell(5 * 74);
        x.tell(5 * 13);
        x.tell(6 * 74);
        x.tell(6 * 13);
        b.due("of all, behind each", x.check(2), 0);
        x.rule(1, 2);
        x.rule(2, 1);
        x.keep();
        x.tell(4 * 74 + 61);
        x.tell(4 * 13);
        b.due("what is not paid is in neither", x.check(1), 0);
    }

    private static void firstThatIsNot() {
        b.says(39, "else 1 and how many stand right ahead of the first that is not");
        for (int wrong = 0; wrong < 6; wrong++) {
            for (int by : new int[] {-1, 1}) {
                RoundFigures x = ghost();
                x.keep();
                for (int i = 0; i < 6; i++) {
                    int day = 1 + i / 2;
                    int right = i % 2 == 0 ? 49 * day : 9 * day;
                    x.tell(i == wrong || i == wrong + 2 ? right + by : right);
                }
                b.due("number " + wrong + " is not", x.check(3), 1 + wrong);
            }
        }
        RoundFigures x = ghost();
        x.keep();
        x.tell(9);
        x.tell(49);
        b.due("PAD stands behind CLAIMED", x.check(1), 1);
    }

    private static void missingOnes() {
        b.says(39, "(or is missing, or one too many)");
        for (int n : new int[] {1, 2, 30}) {
            for (int told = 0; told < 2 * n; told++) {
                RoundFigures x = ghost();
                x.keep();
                rows(x, 1, told);
                b.due(told + " of " + 2 * n, x.check(n), 1 + told);
            }
        }
    }

    /** What waited before must not stand in for what is missing, nor must places that were never used. */
    private static void missingBehindOthers() {
        b.says(39, "is missing");
        for (int told = 0; told < 4; told++) {
            RoundFigures x = ghost();
            x.keep();
            rows(x, 1, 4);
            b.due("all", x.check(2), 0);
            rows(x, 1, told);
            b.due(told + " of 4 behind 4", x.check(2), 1 + told);
            RoundFigures honest = ghost();
            honest.turns(0, 0);
            honest.keep();
            for (int i = 0; i < told; i++) {
                honest.tell(i % 2 == 0 ? 40 * (1 + i / 2) : 0);
            }
            b.due(told + " of 4, PAD is 0", honest.check(2), 1 + told);
            RoundFigures none = new RoundFigures();
            none.keep();
            for (int i = 0; i < told; i++) {
                none.tell(0);
            }
            b.due(told + " of 4, all are 0", none.check(2), 1 + told);
        }
    }

    private static void oneTooMany() {
        b.says(39, "or one too many");
        for (int n : new int[] {1, 2, 28, 29}) {
            for (int more = 1; more <= 2; more++) {
                RoundFigures x = ghost();
                x.keep();
                rows(x, 1, 2 * n + more);
                b.due(more + " too many behind " + 2 * n, x.check(n), 1 + 2 * n);
            }
        }
        RoundFigures x = ghost();
        x.keep();
        rows(x, 1, 60);
        b.due("58 too many", x.check(1), 3);
    }

    private static void noneWaitThen() {
        b.says(39, "The numbers that wait (none do then, whatever is answered)");
        RoundFigures x = ghost();
        x.tell(1);
        b.due("NO", x.check(1), NO);
        b.due("none wait", x.count(6), 0);
        x.tell(1);
        b.due("BAD", x.check(0), BAD);
        b.due("none wait", x.count(6), 0);
        x.tell(1);
        b.due("BAD", x.check(31), BAD);
        b.due("none wait", x.count(6), 0);
        x.keep();
        rows(x, 1, 2);
        b.due("0", x.check(1), 0);
        b.due("none wait", x.count(6), 0);
        rows(x, 1, 3);
        b.due("one too many", x.check(1), 3);
        b.due("none wait", x.count(6), 0);
        rows(x, 1, 3);
        b.due("one is missing", x.check(2), 4);
        b.due("none wait", x.count(6), 0);
        x.tell(1);
        b.due("the first is not", x.check(1), 1);
        b.due("none wait", x.count(6), 0);
        b.due("all are missing", x.check(1), 1);
        rows(x, 1, 2);
        b.due("what is told then stands first", x.check(1), 0);
    }

    private static void upToThirtyDays() {
        b.says(39, "are THE DAYS TOLD of n (1 .. 30; fewer, if THE DAY would be above 9999), two by two: 0");
        RoundFigures x = Bounds.made(Bounds::full);
        b.due("check(30)", x.check(30), 0);
        b.due("check(29)", Bounds.made(Bounds::full).check(29), 59);
        b.due("check(31)", Bounds.made(Bounds::full).check(31), BAD);
        b.due("check(2)", Bounds.made(Bounds::some).check(2), 0);
        b.due("check(1)", Bounds.made(Bounds::some).check(1), 3);
        b.due("check(3)", Bounds.made(Bounds::some).check(3), 5);
        RoundFigures none = new RoundFigures();
        none.keep();
        for (int i = 0; i < 60; i++) {
            none.tell(0);
        }
        b.due("of no TRAVELLERS all are 0", none.check(30), 0);
    }

    private static void fewerDays() {
        b.says(39, "fewer, if THE DAY would be above 9999");
        for (int left = 0; left <= 3; left++) {
            for (int n : new int[] {1, 2, 3, 4, 30}) {
                for (int told = 0; told <= 8; told++) {
                    fewerDays(left, n, told);
                }
            }
        }
        // 30 days are left, or 29
        for (int left = 29; left <= 31; left++) {
            fewerDays(left, 30, 57);
            fewerDays(left, 30, 58);
            fewerDays(left, 30, 59);
            fewerDays(left, 30, 60);
        }
    }

    private static void fewerDays(int left, int n, int told) {
        RoundFigures x = new RoundFigures();
        Bounds.toDay(x, 9999 - left);
        Bounds.tells(x, "cost n");
        x.rule(1, 0);
        x.traveller(GHOST, 40, 0);
        x.keep();
        rows(x, 1, told);
        int numbers = 2 * Math.min(left, n);
        int want = told == numbers ? 0 : 1 + Math.min(told, numbers);
        b.due("check(" + n + ") of " + told + ", " + left + " days are left", x.check(n), want);
        b.due("THE DAY", x.count(1), 9999 - left);
    }

    private static void byTheImage() {
        b.says(39, "one behind the other, by THE IMAGE");
        RoundFigures x = ghost();
        x.days(2);
        x.keep();
        x.days(7);
        x.rule(0, 999);
        x.rule(1, 5);
        x.set(0, 1, 1);
        x.seed(0);
        x.traveller(GHOST, 1, 1);
        Bounds.tells(x, "cost 1");
        rows(x, 3, 6);
        b.due("by the image", x.check(3), 0);
        rows(x, 3, 6);
        b.due("again", x.check(3), 0);
        // on the last day the image's days are still told; of an image of the last day none are
        RoundFigures late = ghost();
        late.keep();
        Bounds.toDay(late, 9999);
        rows(late, 1, 4);
        b.due("on the last day, by an early image", late.check(2), 0);
        late.keep();
        b.due("none are told", late.check(2), 0);
        late.tell(0);
        b.due("one too many", late.check(2), 1);
    }

    private static void checkChangesNothingElse() {
        b.says(39, "AN IMAGE keeps all but SHEETS, SLOTS, numbers that wait, THE TAPE");
        for (int n : new int[] {1, 2, 3, 30}) {
            RoundFigures with = Bounds.made(Bounds::some);
            with.check(n);
            RoundFigures without = Bounds.made(Bounds::some);
            without.check(0);
            b.same("check(" + n + ") must change nothing but the numbers that wait", with, without);
        }
    }

    private static void checkRefused() {
        b.says(39, "BAD; NO: there is no IMAGE.");
        for (int n : new int[] {0, -1, 31, MIN, MAX}) {
            b.refusedBut("check(" + n + ")", BAD, Bounds::some, x -> x.check(n), x -> x.check(2));
            b.refused("check(" + n + ") without an IMAGE", BAD, x -> x.deal(3), x -> x.check(n));
        }
        for (int n : new int[] {1, 30}) {
            b.refused("check(" + n + ") without an IMAGE", NO, x -> x.deal(3), x -> x.check(n));
            RoundFigures with = new RoundFigures();
            with.tell(4);
            b.due("check(" + n + ") without an IMAGE", with.check(n), NO);
            b.same("check(" + n + ") must change nothing but the numbers that wait", with, new RoundFigures());
        }
    }

    // ---- promises 40, 41

    private static void keepTells() {
        b.says(40, "AN IMAGE is kept: how many TRAVELLERS.");
        for (int many = 0; many <= 8; many++) {
            RoundFigures x = new RoundFigures();
            for (int i = 0; i < many; i++) {
                x.traveller(0, i, i);
            }
            b.due("keep() of " + many, x.keep(), many);
            b.due("it is kept", x.back(), many);
            b.due("how many", x.count(0), many);
        }
    }

    private static void keptAgain() {
        b.says(40, "AN IMAGE is kept");
        RoundFigures x = ghost();
        x.keep();
        x.days(5);
        x.deal(2);
        b.due("keep() again", x.keep(), 3);
        x.days(5);
        b.due("the latest one is THE IMAGE", x.back(), 3);
        b.due("THE DAY", x.count(1), 5);
    }

    private static void backTells() {
        b.says(41, "All is as THE IMAGE: how many TRAVELLERS.");
        RoundFigures with = Bounds.made(Bounds::some);
        b.due("back()", with.back(), 3);
        RoundFigures before = before();
        for (int what : new int[] {0, 1, 2, 3, 4, 5, 8}) {
            b.due("count(" + what + ")", with.count(what), before.count(what));
        }
        for (int i = 0; i < 3; i++) {
            for (int what = 0; what < 9; what++) {
                b.due("told(" + i + ", " + what + ")", with.told(i, what), before.told(i, what));
            }
            for (int k = 0; k < 6; k++) {
                b.due("claim(" + i + ", " + k + ")", with.claim(i, k), before.claim(i, k));
            }
        }
        for (int key = 0; key < 3; key++) {
            b.due("why(" + key + ")", with.why(key), before.why(key));
        }
        b.due("fee()", with.fee(), before.fee());
        b.due("days(9)", with.days(9), before.days(9));
        b.due("z", with.count(8), before.count(8));
        b.due("CLAIMED of all", with.coins(1), before.coins(1));
    }

    /** As some, but only what stands when its image is kept. */
    private static RoundFigures before() {
        RoundFigures x = new RoundFigures();
        x.seed(77);
        x.traveller(2, 40, 9);
        x.traveller(5, 7, 3);
        x.traveller(1, 33, 20);
        Bounds.tells(x, "cost n+x");
        Bounds.tells(x, "fee p*3-l");
        x.rule(1, 2);
        x.days(5);
        return x;
    }

    private static void allButFour() {
        b.says(41, "AN IMAGE keeps all but SHEETS, SLOTS, numbers that wait, THE TAPE");
        RoundFigures x = new RoundFigures();
        x.sheet(0, 0, 1);
        x.lay(0, 3, 5);
        x.tell(1);
        x.feed(1, 2, 3);
        x.keep();
        x.mark(0, 0, 9);
        x.sheet(1, 1, 2);
        x.lay(0, 3, 6);
        x.lay(1, 2, 0);
        x.tell(2);
        x.feed(1, 2, 3);
        x.back();
        b.due("the SHEET stays", x.pour(1), 0);
        x.lay(2, 2, 0);
        b.due("the place stays", x.item(2, 0), 9);
        b.due("the SLOT stays", x.rest(0, 10), 6);
        b.due("the SLOT stays", x.item(1, 0), 9);
        b.due("numbers that wait stay", x.count(6), 2);
        b.due("THE TAPE stays", x.count(7), 24);
        x.trim(0);
        x.sheet(0, -1, 0);
        x.lay(0, 0, 0);
        x.check(1);
        x.back();
        b.due("MISSING stays", x.reads(0), NOTHING);
        b.due("nothing stays", x.rest(0, 1), NOTHING);
        b.due("none wait", x.count(6), 0);
        b.due("no bytes", x.count(7), 0);
        RoundFigures tape = ghost();
        tape.keep();
        Bounds.feeds(tape, "fee 77");
        tape.back();
        b.due("the tape is told then", tape.text(), 1);
        b.due("fee()", tape.fee(), 77);
    }

    private static void againAndAgain() {
        b.says(41, "all can become as it is (again and again)");
        RoundFigures x = ghost();
        x.traveller(4, 10, 5);
        x.days(3);
        x.keep();
        for (int round = 0; round < 4; round++) {
            x.turns(0, round);
            x.set(1, 1, 50 + round);
            x.set(1, 2, 60 + round);
            x.rule(0, 100 + round);
            x.rule(1, 5);
            x.rule(2, 1);
            x.seed(round);
            Bounds.tells(x, "cost " + round);
            x.deal(round + 1);
            x.days(20);
            x.behind(9, 0);
            x.check(3);
            b.due("back()", x.back(), 2);
            int[] want = {2, 3, 50, 0, 0, 1};
            for (int what = 0; what < 6; what++) {
                b.due("count(" + what + ") in round " + round, x.count(what), want[what]);
            }
            b.due("z in round " + round, x.count(8), Bounds.zAfter(1, 3 + 3));
            b.due("KIND in round " + round, x.told(0, 0), GHOST);
            b.due("NEED in round " + round, x.told(1, 1), 10);
            b.due("BENT in round " + round, x.told(1, 2), 5);
            b.due("days since in round " + round, x.told(1, 6), 3);
            b.due("CLAIMS in round " + round, x.claim(0, 3) * 1000 + x.claim(0, 2), 49);
            b.due("PAD in round " + round, x.coins(2), 27 + 5 + 7 + 9);
            b.due("costs in round " + round, x.costs(1, 5), 10);
        }
        b.due("of those who came then none is there", x.told(2, 0), BAD);
        b.due("one who comes", x.traveller(0, 1, 1), 2);
        for (int what = 3; what < 8; what++) {
            b.due("told(2, " + what + ")", x.told(2, what), 0);
        }
        for (int i = 0; i < 6; i++) {
            b.due("claim(2, " + i + ")", x.claim(2, i), 0);
        }
    }

    private static void imagesTexts() {
        b.says(41, "All is as THE IMAGE");
        RoundFigures x = new RoundFigures();
        Bounds.tells(x, "fee 10");
        Bounds.tells(x, "fee 11");
        x.keep();
        Bounds.tells(x, "fee 12");
        Bounds.tells(x, "fine 13");
        x.back();
        b.due("TEXTS", x.count(5), 2);
        b.due("why(1)", x.why(1), 1);
        b.due("why(2)", x.why(2), NONE);
        b.due("fee()", x.fee(), 11);
        b.due("the next number", Bounds.tells(x, "fine 20"), 2);
        b.due("its KEY", x.textTold(2, 0), 2);
        x.back();
        b.due("fee()", x.fee(), 11);
        b.due("why(2)", x.why(2), NONE);
        RoundFigures none = new RoundFigures();
        none.keep();
        Bounds.tells(none, "cost 5");
        none.traveller(0, 1, 1);
        none.back();
        none.traveller(0, 1, 1);
        b.due("no TEXT counts", none.costs(0, 2), 3);
    }

    private static void backRefused() {
        b.says(41, "how many TRAVELLERS. NO: there is none.");
        b.refused("back()", NO, Bounds::nothing, RoundFigures::back);
        b.refused("back()", NO, x -> {
            x.deal(4);
            x.days(3);
            x.tell(5);
            Bounds.feeds(x, "fee 4");
            x.sheet(0, 0, 2);
            x.lay(0, 3, 3);
        }, RoundFigures::back);
    }

    // ---- promise 42

    private static void counts() {
        b.says(42, "0 how many TRAVELLERS, 1 THE DAY, 2 LINE, 3 LOOKS, 4 MODE, 5 TEXTS, 6 numbers that wait, 7 bytes of THE TAPE, 8 z.");
        RoundFigures x = Bounds.made(Bounds::full);
        int[] want = {8, 2, 50, 3, 0, 14, 60, 96};
        for (int what = 0; what < want.length; what++) {
            b.due("count(" + what + ")", x.count(what), want[what]);
        }
        b.due("count(8)", x.count(8), Bounds.zAfter(5, 3 * 8 + 2 * (8 + 3)));
        x.rule(0, 999);
        x.rule(1, 8);
        x.rule(2, 1);
        b.due("count(2)", x.count(2), 999);
        b.due("count(3)", x.count(3), 8);
        b.due("count(4)", x.count(4), 1);
    }

    private static void countRefused() {
        b.says(42, "8 z. BAD.");
        for (int what : new int[] {-1, 9, MIN, MAX}) {
            b.refused("count(" + what + ")", BAD, Bounds::some, x -> x.count(what));
        }
    }

    private static void fiveHundredAndTwelve() {
        b.says(42, "An object is used for at most 512 calls after it has been made");
        RoundFigures x = ghost();
        int calls = 5;
        while (calls < 511) {
            x.days(1);
            calls++;
        }
        b.due("the 512th call", x.count(1), 506);
    }
}
