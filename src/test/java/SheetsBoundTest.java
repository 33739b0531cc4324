/** Terms 5 and promises 29 to 37, sentence by sentence: at each bound, right inside it, right outside it. */
public final class SheetsBoundTest {
    private static final int BAD = Bounds.BAD, NO = Bounds.NO, NONE = Bounds.NONE, MIN = Bounds.MIN, MAX = Bounds.MAX;
    private static final int NOTHING = Bounds.NOTHING, KIND = Bounds.KIND, INDEX = Bounds.INDEX, SIZE = Bounds.SIZE;
    private static final int SHORTS = 0, FLOATS = 1, MISSING = -1;
    private static final int A_TRAVELLER = 1, A_SHEET = 2, A_NUMBER = 3;
    private static final Bounds b = new Bounds("SheetsBoundTest");

    public static void main(String[] args) {
        missingAtFirst();
        sheetPlaces();
        allZero();
        missingAgain();
        sheetRefused();
        markShorts();
        markFloats();
        noNumber();
        markRefused();
        pourHeld();
        pourBeyond();
        pourRefused();
        readsFirst();
        readsBeyond();
        readsRefused();
        copyPlaces();
        copyAsTheyWere();
        copyRefused();
        slotsHold();
        layBounds();
        travellerForGood();
        sheetOfItsOwn();
        layRefused();
        askKinds();
        askRefused();
        itemPlaces();
        itemRefused();
        restOfNumbers();
        restRefused();
        b.end(29, 37);
    }

    /** A sheet of this sort with these places; it must answer 1 for each mark. */
    private static void put(RoundFigures x, int sheet, int sort, int... places) {
        b.due("sheet(" + sheet + ", " + sort + ", " + places.length + ")", x.sheet(sheet, sort, places.length), places.length);
        for (int i = 0; i < places.length; i++) {
            b.due("mark(" + sheet + ", " + i + ", " + places[i] + ")", x.mark(sheet, i, places[i]), 1);
        }
    }

    /** The places of a sheet, as its copy in a slot tells them (KIND: no number), and no more of them. */
    private static void holds(String what, RoundFigures x, int sheet, int... places) {
        x.lay(4, A_SHEET, sheet);
        for (int i = 0; i < places.length; i++) {
            b.due(what + ": place " + i, x.item(4, i), places[i]);
        }
        b.due(what + ": behind the last place", x.item(4, places.length), INDEX);
        x.lay(4, 0, 0);
    }

    // ---- promise 29

    private static void missingAtFirst() {
        b.says(29, "SHEETS 0 .. 3 are rows of shorts (sort 0) or floats (1; whole numbers), with 0 to 24 places, or MISSING (at first).");
        RoundFigures x = new RoundFigures();
        for (int sheet = 0; sheet < 4; sheet++) {
            b.due("mark", x.mark(sheet, 0, 0), NOTHING);
            b.due("pour", x.pour(sheet), NOTHING);
            b.due("reads", x.reads(sheet), NOTHING);
            b.due("copy", x.copy(sheet, 0, sheet, 0, 0), NOTHING);
            b.due("lay", x.lay(0, A_SHEET, sheet), NOTHING);
        }
        x.traveller(0, 1, 1);
        for (int sheet = 0; sheet < 4; sheet++) {
            b.due("bentBy", x.bentBy(sheet, 0, 0), NOTHING);
        }
    }

    private static void sheetPlaces() {
        b.says(29, "A SHEET becomes a row of n places of a sort, all 0");
        for (int sheet = 0; sheet < 4; sheet++) {
            for (int sort = SHORTS; sort <= FLOATS; sort++) {
                for (int n : new int[] {0, 1, 2, 23, 24}) {
                    RoundFigures x = new RoundFigures();
                    b.due("sheet(" + sheet + ", " + sort + ", " + n + ")", x.sheet(sheet, sort, n), n);
                    holds("n " + n, x, sheet, new int[n]);
                    b.due("its last place", x.mark(sheet, n - 1, 5), n == 0 ? INDEX : 1);
                    b.due("behind it", x.mark(sheet, n, 5), INDEX);
                    b.due("its sort", x.mark(sheet, 0, NONE), n == 0 ? INDEX : sort == SHORTS ? KIND : 1);
                    b.due("the next one is MISSING", x.reads((sheet + 1) % 4), NOTHING);
                }
            }
        }
    }

    private static void allZero() {
        b.says(29, "of a sort, all 0");
        RoundFigures x = new RoundFigures();
        put(x, 0, FLOATS, 1, NONE, 3);
        b.due("anew", x.sheet(0, FLOATS, 4), 4);
        holds("anew", x, 0, 0, 0, 0, 0);
        put(x, 0, SHORTS, 1, 2, 3);
        b.due("fewer", x.sheet(0, SHORTS, 2), 2);
        holds("fewer", x, 0, 0, 0);
        b.due("more", x.sheet(0, SHORTS, 3), 3);
        holds("more", x, 0, 0, 0, 0);
        put(x, 0, FLOATS, NONE);
        b.due("of the other sort", x.sheet(0, SHORTS, 1), 1);
        holds("of the other sort", x, 0, 0);
    }

    private static void missingAgain() {
        b.says(29, "(sort -1: MISSING, n any): n (0).");
        for (int n : new int[] {0, 1, 24, 25, -1, MIN, MAX, NONE}) {
            RoundFigures x = new RoundFigures();
            put(x, 1, FLOATS, 7, 8);
            b.due("sheet(1, -1, " + n + ")", x.sheet(1, MISSING, n), 0);
            b.due("it is MISSING", x.mark(1, 0, 1), NOTHING);
            b.due("MISSING again", x.sheet(1, MISSING, n), 0);
            b.due("a row again", x.sheet(1, SHORTS, 2), 2);
            holds("a row again", x, 1, 0, 0);
        }
    }

    private static void sheetRefused() {
        b.says(29, "BAD: sheet, sort, n above 24; SIZE.");
        for (int sheet : new int[] {-1, 4, MIN, MAX}) {
            b.refused("sheet " + sheet, BAD, Bounds::some, x -> x.sheet(sheet, SHORTS, 1));
            b.refused("sheet " + sheet + ", MISSING", BAD, Bounds::some, x -> x.sheet(sheet, MISSING, 1));
            b.refused("sheet " + sheet + ", n below 0", BAD, Bounds::some, x -> x.sheet(sheet, SHORTS, -1));
        }
        for (int sort : new int[] {-2, 2, MIN, MAX}) {
            b.refused("sort " + sort, BAD, Bounds::some, x -> x.sheet(0, sort, 1));
            b.refused("sort " + sort + ", n below 0", BAD, Bounds::some, x -> x.sheet(0, sort, -1));
        }
        for (int n : new int[] {25, 26, MAX}) {
            b.refused("n " + n + " of shorts", BAD, Bounds::some, x -> x.sheet(0, SHORTS, n));
            b.refused("n " + n + " of floats", BAD, Bounds::some, x -> x.sheet(1, FLOATS, n));
            b.refused("n " + n + " of one that is MISSING", BAD, Bounds::some, x -> x.sheet(3, FLOATS, n));
        }
        for (int n : new int[] {-1, -24, NONE, MIN}) {
            b.refused("n " + n + " of shorts", SIZE, Bounds::some, x -> x.sheet(0, SHORTS, n));
            b.refused("n " + n + " of floats", SIZE, Bounds::some, x -> x.sheet(1, FLOATS, n));
            b.refused("n " + n + " of one that is MISSING", SIZE, Bounds::some, x -> x.sheet(3, FLOATS, n));
        }
    }

    // ---- promise 30

    private static void markShorts() {
        b.says(30, "A place of a SHEET becomes v (of shorts its lowest 16 bits");
        int[][] rows = {
            {0, 0}, {1, 1}, {-1, -1}, {32766, 32766}, {32767, 32767}, {32768, -32768}, {32769, -32767}, {-32767, -32767}, {-32768, -32768},
            {-32769, 32767}, {65535, -1}, {65536, 0}, {65537, 1}, {-65536, 0}, {99999, -31073}, {100000, -31072}, {MAX, -1}, {MIN, 0},
            {MIN + 1, 1}, {NONE + 1, 13820}, {NONE - 1, 13818}, {BAD, 13823},
        };
        for (int[] row : rows) {
            RoundFigures x = new RoundFigures();
            put(x, 2, SHORTS, 5, row[0], 6);
            holds("v " + row[0], x, 2, 5, row[1], 6);
        }
    }

    private static void markFloats() {
        b.says(30, "of floats v, -99999 .. 99999");
        RoundFigures x = new RoundFigures();
        put(x, 0, FLOATS, -99999, -99998, -1, 0, 1, 32768, 65536, 99998, 99999);
        holds("floats", x, 0, -99999, -99998, -1, 0, 1, 32768, 65536, 99998, 99999);
        for (int v : new int[] {-100000, 100000, NONE + 1, NONE - 1, BAD, MIN, MAX}) {
            b.refused("v " + v, BAD, Bounds::some, y -> y.mark(1, 0, v));
        }
    }

    private static void noNumber() {
        b.says(30, "A place of floats may be NO NUMBER.");
        RoundFigures x = new RoundFigures();
        put(x, 0, FLOATS, 7, NONE, 9);
        holds("NO NUMBER", x, 0, 7, KIND, 9);
        b.due("a number again", x.mark(0, 1, 8), 1);
        holds("a number again", x, 0, 7, 8, 9);
    }

    private static void markRefused() {
        b.says(30, "BAD: sheet; NOTHING; INDEX; KIND: NONE in a row of shorts; BAD: v of floats.");
        for (int sheet : new int[] {-1, 4, MIN, MAX}) {
            b.refused("sheet " + sheet, BAD, Bounds::some, x -> x.mark(sheet, 0, 1));
            b.refused("sheet " + sheet + " and all else", BAD, Bounds::some, x -> x.mark(sheet, -1, NONE));
        }
        b.refused("MISSING", NOTHING, Bounds::some, x -> x.mark(3, 0, 1));
        b.refused("MISSING, no such place", NOTHING, Bounds::some, x -> x.mark(3, -1, NONE));
        b.refused("MISSING, v of floats", NOTHING, Bounds::some, x -> x.mark(3, 24, 100000));
        for (int place : new int[] {-1, 3, 24, MIN, MAX}) {
            b.refused("place " + place + " of shorts", INDEX, Bounds::some, x -> x.mark(0, place, 1));
            b.refused("place " + place + " of shorts, NONE", INDEX, Bounds::some, x -> x.mark(0, place, NONE));
            b.refused("place " + place + " of floats", INDEX, Bounds::some, x -> x.mark(1, place, 1));
            b.refused("place " + place + " of floats, v", INDEX, Bounds::some, x -> x.mark(1, place, 100000));
        }
        b.refused("place 0 of none", INDEX, Bounds::some, x -> x.mark(2, 0, 1));
        b.refused("place 24 of 24", INDEX, y -> {
            Bounds.some(y);
            y.sheet(3, SHORTS, 24);
        }, x -> x.mark(3, 24, 1));
        b.refused("NONE in a row of shorts", KIND, Bounds::some, x -> x.mark(0, 0, NONE));
        b.refused("NONE in a row of shorts", KIND, Bounds::some, x -> x.mark(0, 2, NONE));
        b.refused("v of floats", BAD, Bounds::some, x -> x.mark(1, 2, 100000));
    }

    // ---- promise 31

    private static RoundFigures withNeeds(int... needs) {
        RoundFigures x = new RoundFigures();
        for (int need : needs) {
            x.traveller(0, need, 5);
        }
        return x;
    }

    private static void needs(String what, RoundFigures x, int... want) {
        for (int i = 0; i < want.length; i++) {
            b.due(what + ": NEED of " + i, x.told(i, 1), want[i]);
            b.due(what + ": BENT of " + i, x.told(i, 2), 5);
        }
    }

    private static void pourHeld() {
        b.says(31, "NEEDS of TRAVELLERS, by numbers, become the places of a SHEET from 0 on (each held within 0 .. 99");
        RoundFigures x = withNeeds(50, 50, 50, 50, 50, 50, 50, 50);
        put(x, 0, SHORTS, -32768, -1, 0, 1, 98, 99, 100, 32767);
        b.due("pour", x.pour(0), 8);
        needs("shorts", x, 0, 0, 0, 1, 98, 99, 99, 99);
        b.due("pour again", x.pour(0), 0);
        put(x, 1, FLOATS, 99999, -99999, 50);
        b.due("pour floats", x.pour(1), 2);
        needs("floats", x, 99, 0, 50);
        holds("the SHEET stays", x, 1, 99999, -99999, 50);
        b.says(31, "how many are otherwise then");
        RoundFigures y = withNeeds(0, 99, 10, 20);
        put(y, 0, SHORTS, -5, 300, 10, 21);
        b.due("held to what they are", y.pour(0), 1);
        needs("held", y, 0, 99, 10, 21);
    }

    private static void pourBeyond() {
        b.says(31, "NO NUMBER, and beyond the SHEET: they stay");
        RoundFigures x = withNeeds(10, 20, 30);
        put(x, 0, FLOATS, 1, NONE);
        b.due("pour", x.pour(0), 1);
        needs("NO NUMBER", x, 1, 20, 30);
        x.sheet(1, FLOATS, 0);
        b.due("no places", x.pour(1), 0);
        needs("no places", x, 1, 20, 30);
        put(x, 1, FLOATS, NONE, NONE, NONE);
        b.due("no numbers", x.pour(1), 0);
        needs("no numbers", x, 1, 20, 30);
        x.sheet(2, SHORTS, 24);
        b.due("more places than TRAVELLERS", x.pour(2), 3);
        needs("more places", x, 0, 0, 0);
        b.due("none came", x.count(0), 3);
        x.traveller(0, 44, 5);
        needs("one who comes then", x, 0, 0, 0, 44);
        RoundFigures none = new RoundFigures();
        put(none, 0, SHORTS, 5, 6, 7);
        b.due("no TRAVELLERS", none.pour(0), 0);
        RoundFigures three = withNeeds(10, 20, 30);
        put(three, 0, SHORTS, 10, 20, 31, 40, 50);
        b.due("numbers beyond the TRAVELLERS", three.pour(0), 1);
        needs("numbers beyond", three, 10, 20, 31);
        RoundFigures eight = withNeeds(1, 2, 3, 4, 5, 6, 7, 8);
        put(eight, 0, SHORTS, 8, 7, 6, 5, 4, 3, 2, 1, 99, 99, 99);
        b.due("eight and more places", eight.pour(0), 8);
        needs("eight", eight, 8, 7, 6, 5, 4, 3, 2, 1);
    }

    private static void pourRefused() {
        b.says(31, "how many are otherwise then. BAD; NOTHING.");
        for (int sheet : new int[] {-1, 4, MIN, MAX}) {
            b.refused("pour(" + sheet + ")", BAD, Bounds::some, x -> x.pour(sheet));
        }
        b.refused("pour(3)", NOTHING, Bounds::some, x -> x.pour(3));
        b.refused("pour(0) of none", NOTHING, Bounds::nothing, x -> x.pour(0));
    }

    // ---- promise 32

    private static RoundFigures whoClaimed(int... claims) {
        RoundFigures x = new RoundFigures();
        Bounds.tells(x, "cost n");
        for (int claim : claims) {
            x.traveller(0, claim, 0);
        }
        x.days(1);
        return x;
    }

    private static void readsFirst() {
        b.says(32, "The first place (of numbers alone) at which a SHEET is not the latest CLAIM of that TRAVELLER");
        int[][] rows = {
            // places, the first that is not
            {11, 22, 33, NONE}, {10, 22, 33, 0}, {12, 22, 33, 0}, {11, 21, 33, 1}, {11, 22, 34, 2}, {0, 0, 0, 0}, {11, 0, 0, 1}, {11, 22, 0, 2},
            {NONE, 22, 33, NONE}, {NONE, 0, 33, 1}, {NONE, NONE, 33, NONE}, {NONE, NONE, 0, 2}, {NONE, NONE, NONE, NONE}, {-11, 22, 33, 0},
        };
        for (int[] row : rows) {
            RoundFigures x = whoClaimed(11, 22, 33);
            put(x, 0, FLOATS, row[0], row[1], row[2]);
            b.due("reads of " + row[0] + ", " + row[1] + ", " + row[2], x.reads(0), row[3]);
        }
        RoundFigures x = whoClaimed(11, 22);
        put(x, 3, SHORTS, 11, 22);
        b.due("of shorts", x.reads(3), NONE);
        x.set(1, 1, 23);
        x.days(1);
        b.due("the latest CLAIM", x.reads(3), 1);
        put(x, 3, SHORTS, 11);
        b.due("fewer places", x.reads(3), NONE);
        x.sheet(3, SHORTS, 0);
        b.due("no places", x.reads(3), NONE);
        RoundFigures fresh = withNeeds(5, 5);
        fresh.sheet(0, SHORTS, 2);
        b.due("0 at first", fresh.reads(0), NONE);
    }

    private static void readsBeyond() {
        b.says(32, "(of places that are no TRAVELLER all numbers are not)");
        RoundFigures x = whoClaimed(11);
        put(x, 0, FLOATS, 11, 0);
        b.due("0 of none", x.reads(0), 1);
        put(x, 0, FLOATS, 11, NONE, 0);
        b.due("0 behind NO NUMBER", x.reads(0), 2);
        put(x, 0, FLOATS, 11, NONE, NONE);
        b.due("NO NUMBERS", x.reads(0), NONE);
        RoundFigures none = new RoundFigures();
        none.sheet(0, SHORTS, 24);
        b.due("no TRAVELLERS", none.reads(0), 0);
        put(none, 0, FLOATS, NONE, NONE, 7);
        b.due("no TRAVELLERS", none.reads(0), 2);
        RoundFigures eight = whoClaimed(1, 2, 3, 4, 6, 7, 8, 9);
        put(eight, 0, SHORTS, 1, 2, 3, 4, 6, 7, 8, 9);
        b.due("eight", eight.reads(0), NONE);
        put(eight, 0, SHORTS, 1, 2, 3, 4, 6, 7, 8, 9, 0);
        b.due("the place behind the eighth", eight.reads(0), 8);
        int[] far = new int[24];
        java.util.Arrays.fill(far, NONE);
        far[23] = 0;
        put(eight, 1, FLOATS, far);
        b.due("the last place", eight.reads(1), 23);
    }

    private static void readsRefused() {
        b.says(32, "BAD; NOTHING; NONE: there is none.");
        for (int sheet : new int[] {-1, 4, MIN, MAX}) {
            b.refused("reads(" + sheet + ")", BAD, Bounds::some, x -> x.reads(sheet));
        }
        b.refused("reads(3)", NOTHING, Bounds::some, x -> x.reads(3));
        b.refused("reads(2)", NONE, Bounds::some, x -> x.reads(2));
        b.changesNothing("reads(0)", Bounds::some, x -> x.reads(0));
    }

    // ---- promise 33

    private static void copyPlaces() {
        b.says(33, "So many places of a SHEET come to another one (or the same), as they were: many.");
        for (int size = 0; size <= 4; size++) {
            for (int place = -1; place <= 5; place++) {
                for (int at = -1; at <= 4; at++) {
                    for (int many = -1; many <= 5; many++) {
                        copyOnce(size, place, at, many);
                    }
                }
            }
        }
        RoundFigures x = new RoundFigures();
        x.sheet(0, SHORTS, 24);
        x.sheet(1, SHORTS, 24);
        b.due("all 24", x.copy(0, 0, 1, 0, 24), 24);
        b.due("25", x.copy(0, 0, 1, 0, 25), INDEX);
        b.due("the last one", x.copy(0, 23, 1, 23, 1), 1);
        b.due("behind the last one", x.copy(0, 24, 1, 23, 1), INDEX);
        b.due("behind the last one", x.copy(0, 23, 1, 24, 1), INDEX);
    }

    /** From a row of that size to one of three places. */
    private static void copyOnce(int size, int place, int at, int many) {
        RoundFigures x = new RoundFigures();
        x.sheet(0, SHORTS, size);
        for (int i = 0; i < size; i++) {
            x.mark(0, i, 10 + i);
        }
        put(x, 1, SHORTS, 1, 2, 3);
        boolean there = many >= 0 && place >= 0 && at >= 0 && place + many <= size && at + many <= 3;
        String what = "copy(0, " + place + ", 1, " + at + ", " + many + ") of " + size;
        b.due(what, x.copy(0, place, 1, at, many), there ? many : INDEX);
        int[] want = {1, 2, 3};
        for (int i = 0; there && i < many; i++) {
            want[at + i] = 10 + place + i;
        }
        holds(what, x, 1, want);
        int[] source = new int[size];
        for (int i = 0; i < size; i++) {
            source[i] = 10 + i;
        }
        holds(what, x, 0, source);
    }

    private static void copyAsTheyWere() {
        b.says(33, "(or the same), as they were");
        RoundFigures x = new RoundFigures();
        put(x, 0, SHORTS, 1, 2, 3, 4, 5);
        b.due("forwards", x.copy(0, 0, 0, 1, 4), 4);
        holds("forwards", x, 0, 1, 1, 2, 3, 4);
        put(x, 0, SHORTS, 1, 2, 3, 4, 5);
        b.due("backwards", x.copy(0, 1, 0, 0, 4), 4);
        holds("backwards", x, 0, 2, 3, 4, 5, 5);
        put(x, 0, SHORTS, 1, 2, 3, 4, 5);
        b.due("by two", x.copy(0, 0, 0, 2, 3), 3);
        holds("by two", x, 0, 1, 2, 1, 2, 3);
        b.due("to where they are", x.copy(0, 1, 0, 1, 3), 3);
        holds("to where they are", x, 0, 1, 2, 1, 2, 3);
        put(x, 1, FLOATS, NONE, 99999);
        put(x, 2, FLOATS, 5, 6, 7);
        b.due("NO NUMBER too", x.copy(1, 0, 2, 1, 2), 2);
        holds("NO NUMBER too", x, 2, 5, KIND, 99999);
        x.mark(1, 0, 4);
        holds("a row by itself", x, 2, 5, KIND, 99999);
    }

    private static void copyRefused() {
        b.says(33, "BAD; NOTHING; KIND: they are not of one sort; INDEX. (From a SHEET, its place, to a SHEET, its place.)");
        for (int sheet : new int[] {-1, 4, MIN, MAX}) {
            b.refused("from " + sheet, BAD, Bounds::some, x -> x.copy(sheet, 0, 0, 0, 0));
            b.refused("to " + sheet, BAD, Bounds::some, x -> x.copy(0, 0, sheet, 0, 0));
            b.refused("from " + sheet + " to a MISSING one", BAD, Bounds::some, x -> x.copy(sheet, 0, 3, 0, 0));
            b.refused("from a MISSING one to " + sheet, BAD, Bounds::some, x -> x.copy(3, -1, sheet, 0, 0));
        }
        b.refused("from a MISSING one", NOTHING, Bounds::some, x -> x.copy(3, 0, 0, 0, 0));
        b.refused("to a MISSING one", NOTHING, Bounds::some, x -> x.copy(0, 0, 3, 0, 0));
        b.refused("of MISSING ones", NOTHING, Bounds::some, x -> x.copy(3, 0, 3, 0, 0));
        b.refused("to a MISSING one, no such place", NOTHING, Bounds::some, x -> x.copy(1, 9, 3, -9, 99));
        b.refused("from a MISSING one, no such place", NOTHING, Bounds::some, x -> x.copy(3, 9, 1, -9, 99));
        b.refused("shorts to floats", KIND, Bounds::some, x -> x.copy(0, 0, 1, 0, 1));
        b.refused("floats to shorts", KIND, Bounds::some, x -> x.copy(1, 0, 0, 0, 1));
        b.refused("shorts to floats, none of them", KIND, Bounds::some, x -> x.copy(0, 0, 1, 0, 0));
        b.refused("shorts to floats, no such place", KIND, Bounds::some, x -> x.copy(0, 9, 1, 0, 1));
        b.refused("floats to shorts, many below 0", KIND, Bounds::some, x -> x.copy(1, 0, 0, 0, -1));
        int[][] outside = {
            {-1, 0, 1}, {0, -1, 1}, {3, 0, 1}, {0, 3, 1}, {0, 0, 4}, {1, 0, 3}, {0, 1, 3}, {4, 0, 0}, {0, 4, 0}, {0, 0, -1}, {1, 1, -1},
            {MAX, 0, 1}, {0, MAX, 1}, {0, 0, MAX}, {MIN, 0, 1}, {0, MIN, 1}, {0, 0, MIN}, {MAX, MAX, MAX}, {MIN, MIN, MIN}, {MAX, 0, MIN}, {2, 2, MAX},
        };
        for (int[] row : outside) {
            b.refused("place " + row[0] + " to " + row[1] + ", " + row[2], INDEX, Bounds::some, x -> x.copy(1, row[0], 1, row[1], row[2]));
        }
        b.due("none, at the ends", Bounds.made(Bounds::some).copy(1, 3, 1, 3, 0), 0);
        b.due("none of none", Bounds.made(Bounds::some).copy(2, 0, 2, 0, 0), 0);
        b.refused("one of none", INDEX, Bounds::some, x -> x.copy(2, 0, 1, 0, 1));
        b.refused("one to none", INDEX, Bounds::some, x -> x.copy(1, 0, 2, 0, 1));
    }

    // ---- promise 34

    private static void slotsHold() {
        b.says(34, "SLOTS 0 .. 4 each hold nothing (at first), a TRAVELLER (as it is then, for good), a SHEET (a row of its own, as it was then), or a number.");
        RoundFigures x = withNeeds(7);
        put(x, 0, SHORTS, 8);
        for (int slot = 0; slot < 5; slot++) {
            b.due("ask of nothing", x.ask(slot, 0), NOTHING);
            b.due("item of nothing", x.item(slot, 0), NOTHING);
            b.due("rest of nothing", x.rest(slot, 1), NOTHING);
            b.due("lay of a TRAVELLER", x.lay(slot, A_TRAVELLER, 0), 0);
            b.due("ask", x.ask(slot, 0), 7);
            b.due("lay of a SHEET", x.lay(slot, A_SHEET, 0), A_TRAVELLER);
            b.due("item", x.item(slot, 0), 8);
            b.due("lay of a number", x.lay(slot, A_NUMBER, 9), A_SHEET);
            b.due("rest", x.rest(slot, 10), 9);
            b.due("lay of nothing", x.lay(slot, 0, 0), A_NUMBER);
            b.due("rest of nothing", x.rest(slot, 1), NOTHING);
            b.due("lay of nothing again", x.lay(slot, 0, 0), 0);
            b.due("lay of a number", x.lay(slot, A_NUMBER, 100 + slot), 0);
        }
        for (int slot = 0; slot < 5; slot++) {
            b.due("each by itself", x.rest(slot, 1000), 100 + slot);
        }
    }

    private static void layBounds() {
        b.says(34, "thing 0 nothing, 1 TRAVELLER k, 2 SHEET k, 3 the number k: what it held (0 .. 3).");
        RoundFigures x = withNeeds(1, 2, 3, 4, 5, 6, 7, 8);
        for (int k = 0; k < 8; k++) {
            b.due("TRAVELLER " + k, x.lay(0, A_TRAVELLER, k), k == 0 ? 0 : A_TRAVELLER);
            b.due("its WORTH", x.ask(0, 0), k + 1);
        }
        for (int k = 0; k < 4; k++) {
            put(x, k, k % 2, 30 + k);
            b.due("SHEET " + k, x.lay(1, A_SHEET, k), k == 0 ? 0 : A_SHEET);
            b.due("its place", x.item(1, 0), 30 + k);
        }
        int was = 0;
        for (int k : new int[] {0, 1, -1, MIN, MAX, NONE, BAD}) {
            b.due("the number " + k, x.lay(2, A_NUMBER, k), was);
            b.due("its rest", x.rest(2, MIN), k == MIN ? 0 : k);
            b.due("its rest", x.rest(2, 1000), k % 1000);
            was = A_NUMBER;
        }
        for (int k : new int[] {0, 99, -1, MIN, MAX}) {
            x.lay(2, A_NUMBER, 5);
            b.due("nothing, k " + k, x.lay(2, 0, k), A_NUMBER);
            b.due("it holds nothing", x.rest(2, 1), NOTHING);
        }
    }

    private static void travellerForGood() {
        b.says(34, "a TRAVELLER (as it is then, for good)");
        RoundFigures x = new RoundFigures();
        x.keep();
        x.traveller(2, 40, 9);
        x.lay(0, A_TRAVELLER, 0);
        x.set(0, 2, 50);
        b.due("BENT then", x.ask(0, 2), 90);
        x.turns(0, 1);
        b.due("KIND then", x.ask(0, 2), 90);
        b.due("KIND then", x.ask(0, 1), KIND);
        x.back();
        b.due("there is no such TRAVELLER", x.told(0, 0), BAD);
        b.due("it is there for good", x.ask(0, 2), 90);
        x.traveller(5, 1, 1);
        b.due("and stays", x.ask(0, 2), 90);
    }

    private static void sheetOfItsOwn() {
        b.says(34, "a SHEET (a row of its own, as it was then)");
        RoundFigures x = new RoundFigures();
        put(x, 0, FLOATS, 1, NONE, 3);
        x.lay(0, A_SHEET, 0);
        x.lay(1, A_SHEET, 0);
        x.mark(0, 0, 77);
        x.mark(0, 1, 77);
        x.lay(1, A_SHEET, 0);
        b.due("as it was then", x.item(0, 0), 1);
        b.due("as it was then", x.item(0, 1), KIND);
        b.due("as it was by then", x.item(1, 1), 77);
        x.sheet(0, SHORTS, 1);
        b.due("as it was then", x.item(0, 2), 3);
        x.sheet(0, MISSING, 0);
        b.due("as it was then", x.item(0, 2), 3);
        b.due("as it was then", x.item(0, 3), INDEX);
        RoundFigures y = new RoundFigures();
        y.sheet(0, SHORTS, 0);
        b.due("a row without places", y.lay(0, A_SHEET, 0), 0);
        b.due("a row without places", y.item(0, 0), INDEX);
    }

    private static void layRefused() {
        b.says(34, "BAD: slot, thing, k; NOTHING: that SHEET is MISSING.");
        for (int slot : new int[] {-1, 5, MIN, MAX}) {
            for (int thing = 0; thing < 4; thing++) {
                int of = thing;
                b.refused("slot " + slot + ", thing " + thing, BAD, Bounds::some, x -> x.lay(slot, of, 0));
            }
            b.refused("slot " + slot + ", a MISSING SHEET", BAD, Bounds::some, x -> x.lay(slot, A_SHEET, 3));
        }
        for (int thing : new int[] {-1, 4, MIN, MAX}) {
            b.refused("thing " + thing, BAD, Bounds::some, x -> x.lay(2, thing, 0));
        }
        for (int k : new int[] {-1, 3, MIN, MAX}) {
            b.refused("TRAVELLER " + k, BAD, Bounds::some, x -> x.lay(0, A_TRAVELLER, k));
        }
        b.refused("TRAVELLER 8 of 8", BAD, Bounds::full, x -> x.lay(0, A_TRAVELLER, 8));
        b.refused("TRAVELLER 0 of none", BAD, Bounds::nothing, x -> x.lay(0, A_TRAVELLER, 0));
        for (int k : new int[] {-1, 4, MIN, MAX}) {
            b.refused("SHEET " + k, BAD, Bounds::some, x -> x.lay(1, A_SHEET, k));
        }
        for (int slot = 0; slot < 5; slot++) {
            int of = slot;
            b.refused("a MISSING SHEET to slot " + slot, NOTHING, Bounds::some, x -> x.lay(of, A_SHEET, 3));
        }
    }

    // ---- promise 35

    private static void askKinds() {
        b.says(35, "WORTH of the TRAVELLER in a SLOT, taken for one of a KIND (0 .. 5).");
        String[] isOf = {"0", "01", "02", "013", "024", "05"};
        int[] worth = {20, 25, 92, 50, 83, 1};
        for (int kind = 0; kind < 6; kind++) {
            RoundFigures x = new RoundFigures();
            x.traveller(kind, 20, 7);
            x.lay(3, A_TRAVELLER, 0);
            for (int as = 0; as < 6; as++) {
                int want = isOf[kind].contains(String.valueOf(as)) ? worth[kind] : KIND;
                b.due("kind " + kind + " taken for " + as, x.ask(3, as), want);
            }
        }
    }

    private static void askRefused() {
        b.says(35, "BAD; NOTHING; KIND: it is no TRAVELLER, or not of that KIND, nor of one under it.");
        for (int slot : new int[] {-1, 5, MIN, MAX}) {
            b.refused("slot " + slot, BAD, Bounds::some, x -> x.ask(slot, 0));
        }
        for (int kind : new int[] {-1, 6, MIN, MAX}) {
            b.refused("kind " + kind, BAD, Bounds::some, x -> x.ask(0, kind));
            b.refused("kind " + kind + " of nothing", BAD, Bounds::some, x -> x.ask(3, kind));
            b.refused("kind " + kind + " of a number", BAD, Bounds::some, x -> x.ask(2, kind));
        }
        for (int kind = 0; kind < 6; kind++) {
            int of = kind;
            b.refused("nothing as " + kind, NOTHING, Bounds::some, x -> x.ask(3, of));
            b.refused("a number as " + kind, KIND, Bounds::some, x -> x.ask(2, of));
            b.refused("a SHEET as " + kind, KIND, Bounds::some, x -> x.ask(1, of));
        }
        for (int kind : new int[] {1, 3, 4, 5}) {
            b.refused("a PADDER as " + kind, KIND, Bounds::some, x -> x.ask(0, kind));
        }
    }

    // ---- promise 36

    private static void itemPlaces() {
        b.says(36, "A place of the SHEET in a SLOT.");
        for (int n : new int[] {1, 2, 23, 24}) {
            RoundFigures x = new RoundFigures();
            x.sheet(0, SHORTS, n);
            for (int i = 0; i < n; i++) {
                x.mark(0, i, 100 + i);
            }
            x.lay(2, A_SHEET, 0);
            b.due("place 0 of " + n, x.item(2, 0), 100);
            b.due("the last place of " + n, x.item(2, n - 1), 100 + n - 1);
            b.due("behind it", x.item(2, n), INDEX);
            b.due("ahead of place 0", x.item(2, -1), INDEX);
        }
    }

    private static void itemRefused() {
        b.says(36, "BAD: slot; NOTHING; KIND: it is no SHEET; INDEX; KIND: NO NUMBER.");
        for (int slot : new int[] {-1, 5, MIN, MAX}) {
            b.refused("slot " + slot, BAD, Bounds::some, x -> x.item(slot, 0));
            b.refused("slot " + slot + ", no such place", BAD, Bounds::some, x -> x.item(slot, -1));
        }
        for (int place : new int[] {-1, 0, 24, MIN, MAX}) {
            b.refused("place " + place + " of nothing", NOTHING, Bounds::some, x -> x.item(3, place));
            b.refused("place " + place + " of a TRAVELLER", KIND, Bounds::some, x -> x.item(0, place));
            b.refused("place " + place + " of a number", KIND, Bounds::some, x -> x.item(2, place));
        }
        for (int place : new int[] {-1, 3, 24, MIN, MAX}) {
            b.refused("place " + place + " of shorts", INDEX, Bounds::some, x -> x.item(1, place));
            b.refused("place " + place + " of floats", INDEX, Bounds::some, x -> x.item(4, place));
        }
        b.refused("NO NUMBER", KIND, Bounds::some, x -> x.item(4, 1));
        b.due("a number beside it", Bounds.made(Bounds::some).item(4, 2), -1);
    }

    // ---- promise 37

    private static void restOfNumbers() {
        b.says(37, "The rest of the number in a SLOT by n.");
        int[][] rows = {
            {17, 5, 2}, {17, -5, 2}, {-17, 5, -2}, {-17, -5, -2}, {0, 7, 0}, {7, 7, 0}, {6, 7, 6}, {8, 7, 1}, {5, 1, 0}, {5, -1, 0},
            {MIN, -1, 0}, {MIN, 1, 0}, {MIN, 10, -8}, {MIN, MIN, 0}, {MIN, MAX, -1}, {MAX, MIN, MAX}, {MAX, 10, 7}, {1, MAX, 1}, {-1, MIN, -1},
        };
        for (int[] row : rows) {
            RoundFigures x = new RoundFigures();
            x.lay(0, A_NUMBER, row[0]);
            b.due("rest of " + row[0] + " by " + row[1], x.rest(0, row[1]), row[2]);
        }
    }

    private static void restRefused() {
        b.says(37, "BAD: slot; NOTHING; KIND: it is no number; NO: n is 0.");
        for (int slot : new int[] {-1, 5, MIN, MAX}) {
            b.refused("slot " + slot, BAD, Bounds::some, x -> x.rest(slot, 1));
            b.refused("slot " + slot + ", n is 0", BAD, Bounds::some, x -> x.rest(slot, 0));
        }
        for (int n : new int[] {0, 1}) {
            b.refused("nothing by " + n, NOTHING, Bounds::some, x -> x.rest(3, n));
            b.refused("a TRAVELLER by " + n, KIND, Bounds::some, x -> x.rest(0, n));
            b.refused("a SHEET by " + n, KIND, Bounds::some, x -> x.rest(1, n));
        }
        b.refused("a number by 0", NO, Bounds::some, x -> x.rest(2, 0));
        b.refused("0 by 0", NO, y -> {
            Bounds.some(y);
            y.lay(2, A_NUMBER, 0);
        }, x -> x.rest(2, 0));
    }
}
