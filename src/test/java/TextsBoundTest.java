/** Terms 4 and promises 24 to 28, sentence by sentence: at each bound, right inside it, right outside it. */
public final class TextsBoundTest {
    private static final int BAD = Bounds.BAD, FULL = Bounds.FULL, NONE = Bounds.NONE, MIN = Bounds.MIN, MAX = Bounds.MAX;
    private static final int GOOD = -1;
    private static final Bounds b = new Bounds("TextsBoundTest");

    public static void main(String[] args) {
        tapeUpTo96();
        highestByteFirst();
        feedFull();
        trimBounds();
        trimRefused();
        fourteenTexts();
        fullTexts();
        usedUp();
        faultsChangeNothing();
        keys();
        namesOfKeys();
        numbers();
        fourDigits();
        wordsAndSigns();
        blanks();
        blanksBetweenWords();
        endTooSoon();
        firstFault();
        ors();
        ands();
        tests();
        sums();
        terms();
        pieces();
        ninthBracket();
        ninthNot();
        eachByItself();
        allOfTheTape();
        intsWrap();
        divisions();
        testsGive();
        bothSides();
        loosestFirst();
        namesGive();
        textToldBounds();
        whyTheLast();
        b.end(24, 28);
    }

    private static void fault(String s, int place) {
        RoundFigures x = new RoundFigures();
        b.due("'" + s + "'", Bounds.tells(x, s), place == GOOD ? 0 : -100 - place);
        b.due("the tape behind '" + s + "'", x.count(7), 0);
        b.due("TEXTS behind '" + s + "'", x.count(5), place == GOOD ? 1 : 0);
    }

    private static void gives(String e, int want) {
        RoundFigures x = new RoundFigures();
        x.rule(1, 7);
        b.due("'fee " + e + "'", Bounds.tells(x, "fee " + e), 0);
        b.due("what '" + e + "' gives", x.fee(), want);
    }

    // ---- promise 24

    private static void tapeUpTo96() {
        b.says(24, "from THE TAPE (96 bytes at most");
        RoundFigures x = new RoundFigures();
        for (int i = 1; i <= 8; i++) {
            b.due("feed", x.feed(1, 2, 3), 12 * i);
            b.due("count(7)", x.count(7), 12 * i);
        }
        b.due("feed to 96", x.feed(1, 2, 3), FULL);
        b.due("count(7)", x.count(7), 96);
        for (int has : new int[] {83, 84}) {
            x.trim(has);
            b.due("feed to " + has, x.feed(1, 2, 3), has + 12);
        }
        x.trim(85);
        b.due("feed to 85", x.feed(1, 2, 3), FULL);
        b.due("count(7)", x.count(7), 85);
    }

    private static void highestByteFirst() {
        b.says(24, "Twelve bytes come to THE TAPE, the highest of each number first: how many it has.");
        RoundFigures x = new RoundFigures();
        x.feed('f' << 24 | 'e' << 16 | 'e' << 8 | ' ', '1' << 24 | '2' << 16 | '3' << 8 | '4', '+' << 24 | '5' << 16 | '*' << 8 | '6');
        b.due("text()", x.text(), 0);
        b.due("fee()", x.fee(), 1264);
        // each byte by itself: a sign at that place is the fault
        for (int place = 0; place < 12; place++) {
            for (int odd : new int[] {0, 127, 128, 255}) {
                char[] bytes = "fee 1+2+3+4 ".toCharArray();
                bytes[place] = (char) odd;
                int want = place < 3 ? 0 : place;
                b.due("byte " + odd + " at " + place, Bounds.tells(new RoundFigures(), new String(bytes)), -100 - want);
            }
        }
    }

    private static void feedFull() {
        b.says(24, "FULL: it would have more than 96.");
        b.refused("feed", FULL, Bounds::full, x -> x.feed(0, 0, 0));
        b.refused("feed to 85", FULL, y -> {
            Bounds.some(y);
            y.trim(0);
            Bounds.feeds(y, "fine s" + " ".repeat(78) + " ");
        }, x -> x.feed(0x2b2b2b2b, 0, 0));
    }

    // ---- promise 25

    private static void trimBounds() {
        b.says(25, "THE TAPE keeps its first n bytes: n.");
        RoundFigures x = new RoundFigures();
        b.due("trim(0) of none", x.trim(0), 0);
        x.feed('f' << 24 | 'e' << 16 | 'e' << 8 | ' ', '1' << 24 | '2' << 16 | '3' << 8 | '4', '5' << 24 | '6' << 16);
        for (int n : new int[] {12, 11, 7}) {
            b.due("trim(" + n + ")", x.trim(n), n);
            b.due("count(7)", x.count(7), n);
        }
        b.due("more than it has", x.trim(8), BAD);
        b.due("as many as it has", x.trim(7), 7);
        b.due("text()", x.text(), 0);
        b.due("its first 7", x.fee(), 123);
        x.feed(1, 2, 3);
        b.due("trim(0)", x.trim(0), 0);
        b.due("text()", x.text(), -100);
    }

    private static void trimRefused() {
        b.says(25, "THE TAPE keeps its first n bytes: n. BAD.");
        for (int n : new int[] {-1, 11, 96, MIN, MAX}) {
            b.refused("trim(" + n + ") of 10", BAD, Bounds::some, x -> x.trim(n));
        }
        b.refused("trim(97) of 96", BAD, Bounds::full, x -> x.trim(97));
        b.refused("trim(1) of none", BAD, Bounds::nothing, x -> x.trim(1));
        b.refused("trim(-1) of none", BAD, Bounds::nothing, x -> x.trim(-1));
        RoundFigures x = Bounds.made(Bounds::full);
        b.due("trim(96) of 96", x.trim(96), 96);
    }

    // ---- promise 26: the number of a text, what is refused

    private static void fourteenTexts() {
        b.says(26, "TEXTS, 14 at most, numbered from 0");
        RoundFigures x = new RoundFigures();
        for (int i = 0; i < 14; i++) {
            b.due("count(5)", x.count(5), i);
            b.due("text " + i, Bounds.tells(x, "fee " + (50 + i)), i);
            b.due("it counts", x.fee(), 50 + i);
        }
        b.due("count(5)", x.count(5), 14);
        b.due("the fifteenth", Bounds.tells(x, "fee 99"), FULL);
        b.due("count(5)", x.count(5), 14);
        b.due("the fourteenth still counts", x.fee(), 63);
        b.due("why(1)", x.why(1), 13);
        RoundFigures y = new RoundFigures();
        for (int i = 0; i < 13; i++) {
            Bounds.tells(y, "fee 1");
        }
        y.keep();
        b.due("the fourteenth", Bounds.tells(y, "fee 2"), 13);
        b.due("the fifteenth", Bounds.tells(y, "fee 3"), FULL);
        y.back();
        b.due("the fourteenth anew", Bounds.tells(y, "fee 4"), 13);
        b.due("it counts", y.fee(), 4);
    }

    private static void fullTexts() {
        b.says(26, "-100 less the place of its FAULT; FULL.");
        b.refusedBut("a good one", FULL, Bounds::full, RoundFigures::text, x -> x.trim(0));
        b.refusedBut("a faulty one", -103, x -> {
            Bounds.full(x);
            x.trim(3);
        }, RoundFigures::text, x -> x.trim(0));
        b.refusedBut("none", -100, x -> {
            Bounds.full(x);
            x.trim(0);
        }, RoundFigures::text, x -> x.trim(0));
    }

    private static void usedUp() {
        b.says(26, "an act that reads it uses it up, whatever it answers");
        RoundFigures x = new RoundFigures();
        Bounds.feeds(x, "fee 5");
        b.due("good", x.text(), 0);
        b.due("used up", x.count(7), 0);
        b.due("an empty one", x.text(), -100);
        Bounds.feeds(x, "fee 5+");
        b.due("a fault", x.text(), -106);
        b.due("used up", x.count(7), 0);
        b.due("an empty one", x.text(), -100);
        b.due("what is fed then stands first", x.feed(0x66656520, 0x37202020, 0x20202020), 12);
        b.due("good", x.text(), 1);
        b.due("fee", x.fee(), 7);
        RoundFigures y = Bounds.made(Bounds::full);
        b.due("FULL", y.text(), FULL);
        b.due("used up", y.count(7), 0);
    }

    private static void faultsChangeNothing() {
        b.says(26, "and changes nothing (but the tape and the numbers that wait, where told)");
        for (String s : new String[] {"", "cost", "cost n+", "cost n)", "fee 1 2", "fine !(s", "fee (((((((((p)))))))))", "cost 12345"}) {
            RoundFigures x = new RoundFigures();
            int answer = Bounds.tells(x, s);
            b.due("'" + s + "' is faulty", answer <= -100 && answer >= -196 ? 1 : 0, 1);
            b.refusedBut("'" + s + "'", answer, y -> {
                Bounds.some(y);
                y.trim(0);
                Bounds.feeds(y, s);
            }, RoundFigures::text, y -> y.trim(0));
        }
    }

    // ---- promise 26: words

    private static void keys() {
        b.says(26, "KEY: cost | fee | fine.");
        fault("cost 1", GOOD);
        fault("fee 1", GOOD);
        fault("fine 1", GOOD);
        for (String s : new String[] {"cos 1", "costs 1", "xcost 1", "fe 1", "feee 1", "fees 1", "fin 1", "finee 1", "coss 1", "cast 1", "fed 1", "fins 1", "n 1", "1 1", "feecost 1"}) {
            fault(s, 0);
        }
        for (String key : new String[] {"cost", "fee", "fine"}) {
            for (int i = 0; i < key.length(); i++) {
                fault(key.substring(0, i) + 'x' + key.substring(i + 1) + " 1", 0);
                fault(key.substring(0, i) + key.substring(i + 1) + " 1", 0);
                fault(key.substring(0, i) + 'x' + key.substring(i) + " 1", 0);
            }
        }
        fault("Cost 1", 0);
        fault("COST 1", 0);
        fault("(cost) 1", 0);
        fault("!cost 1", 0);
        fault("c ost 1", 0);
        fault("  costs 1", 2);
        fault("cost cost", 5);
        fault("fee fine", 4);
        fault("fine fee", 5);
        fault("cost fee 1", 5);
        fault("cosT 1", 0);
    }

    private static void namesOfKeys() {
        b.says(26, "NAMES, each one letter: of cost n NEED, x, d THE DAY; of fee p PAD, l LOOKS");
        String[] keys = {"cost ", "fee ", "fine "};
        String[] names = {"nxd", "pl", "sc"};
        for (int key = 0; key < 3; key++) {
            for (char c = 'a'; c <= 'z'; c++) {
                fault(keys[key] + c, names[key].indexOf(c) >= 0 ? GOOD : keys[key].length());
            }
            fault(keys[key] + names[key], keys[key].length());
            fault(keys[key] + names[key].charAt(0) + names[key].charAt(0), keys[key].length());
            fault(keys[key] + Character.toUpperCase(names[key].charAt(0)), keys[key].length());
        }
    }

    private static void numbers() {
        b.says(26, "NUMBER (1 to 4 digits)");
        gives("0", 0);
        gives("9", 9);
        gives("10", 10);
        gives("99", 99);
        gives("100", 100);
        gives("999", 999);
        gives("1000", 1000);
        gives("9999", 9999);
        gives("0000", 0);
        gives("0009", 9);
        gives("1234", 1234);
        gives("5678", 5678);
    }

    private static void fourDigits() {
        b.says(26, "a NUMBER of more than 4 digits");
        fault("fee 9999", GOOD);
        fault("fee 10000", 4);
        fault("fee 00000", 4);
        fault("fee 00001", 4);
        fault("fee 123456789012", 4);
        fault("fee 1+9999", GOOD);
        fault("fee 1+99999", 6);
        fault("fee (99999", 5);
        fault("fee 99999999999999999999)", 4);
        fault("fee 1234 5678", 9);
    }

    private static void wordsAndSigns() {
        b.says(26, "A word is a row of letters a .. z, or of digits, as long as it goes; any other byte is a sign by itself.");
        // the bytes right outside a .. z and 0 .. 9 are signs: a fault by themselves, not a longer word
        fault("cost n`", 6);
        fault("cost n{", 6);
        fault("cost na", 5);
        fault("cost nz", 5);
        fault("cost 1:", 6);
        fault("cost 1/2", GOOD);
        fault("cost 10", GOOD);
        fault("cost 19", GOOD);
        fault("cost`n", 4);
        fault("cost{n", 4);
        fault("cost @", 5);
        fault("cost n_", 6);
        fault("cost n.", 6);
        fault("cost n,1", 6);
        fault("cost 1e3", 6);
        fault("cost nN", 6);
        fault("cost <<", 5);
        fault("cost 1<>2", 7);
        fault("cost 1==2", 7);
        fault("cost 1||2", 7);
        fault("cost 1&&2", 7);
        fault("cost 1!=2", 6);
        fault("cost [1]", 5);
        fault("cost n%2", 6);
        fault("cost n^2", 6);
    }

    private static void blanks() {
        b.says(26, "Between words and signs, and at the ends, there may be blanks (byte 32)");
        fault("cost n", GOOD);
        fault(" cost n ", GOOD);
        fault("   cost   n   ", GOOD);
        fault("cost(n)", GOOD);
        fault("cost!n", GOOD);
        fault("cost ( n ) * ! ( x ) + 1 < 2", GOOD);
        fault("cost(n)*!(x)+1<2", GOOD);
        fault("cost ! ! n", GOOD);
        for (int odd : new int[] {0, 9, 10, 13, 31, 160, 255}) {
            char c = (char) odd;
            fault(c + "cost n", 0);
            fault("cost" + c + "n", 4);
            fault("cost n" + c, 6);
            fault("cost n " + c + "+1", 7);
            fault("cost n+" + c + "1", 7);
        }
        fault("cost 1 0+1", 7);
        fault("co st 1", 0);
        fault("fee 1 < = 2", 8);
    }

    private static void blanksBetweenWords() {
        b.says(26, "a word right behind another one needs one");
        fault("cost1", 4);
        fault("cost 1", GOOD);
        fault("cost9+1", 4);
        fault("costn", 0);
        fault("cost 1n", 6);
        fault("cost n1", 6);
        fault("cost n 1", 7);
        fault("cost (1n)", 7);
        fault("cost 12x", 7);
        fault("cost0 1", 4);
        fault("cost12345", 4);
        fault("cost1n", 4);
        fault("fee1", 3);
        fault("fine1", 4);
        fault("cost(1)2", 7);
        fault("cost(1)n", 7);
        fault("cost n(1)", 6);
        fault("cost 1(n)", 6);
    }

    private static void endTooSoon() {
        b.says(26, "the end (the place behind the last byte), if it comes too soon");
        fault("", 0);
        fault(" ", 1);
        fault("     ", 5);
        fault("cost", 4);
        fault("cost    ", 8);
        fault("cost (", 6);
        fault("cost (n", 7);
        fault("cost (n ", 8);
        fault("cost ((n)", 9);
        fault("cost !", 6);
        fault("cost !!", 7);
        for (char c : "+-*/<=>&|".toCharArray()) {
            fault("cost n" + c, 7);
            fault("cost n" + c + "  ", 9);
            fault("cost (n" + c, 8);
        }
        fault(" ".repeat(96), 96);
        fault("cost" + " ".repeat(92), 96);
        fault("cost" + " ".repeat(91) + "n", GOOD);
        fault("cost" + " ".repeat(91) + "(", 96);
        fault("cost" + " ".repeat(91) + ")", 95);
    }

    private static void firstFault() {
        b.says(26, "FAULT: the first byte of the first word or sign with which no TEXT goes on");
        fault("cost ) ) nn", 5);
        fault("cost n ) 12345", 7);
        fault("cost n + + n )", 9);
        fault("costs ) (", 0);
        fault("fee p l ", 6);
        fault("fee p - x - y", 8);
        fault("fee p -    xyz - y", 11);
        fault("cost ()", 6);
        fault("cost (n))", 8);
        fault("cost n)", 6);
        fault("cost (+n)", 6);
        fault("cost -n", 5);
        fault("cost +n", 5);
        fault("cost n-!-x", 8);
        fault("cost n!", 6);
        fault("cost n!x", 6);
        fault("cost n ! x", 7);
        fault("cost !)", 6);
        fault("cost *n", 5);
    }

    // ---- promise 26: what goes on with what

    private static void ors() {
        b.says(26, "OR: AND { | AND }");
        fault("cost |n", 5);
        fault("cost n|", 7);
        gives("0|0", 0);
        gives("0|2", 1);
        gives("2|0", 1);
        gives("2|4", 1);
        gives("0|0|0", 0);
        gives("0|0|3", 1);
        gives("3|0|0", 1);
        gives("0|0|0|0|0|0|0|9", 1);
    }

    private static void ands() {
        b.says(26, "AND: TEST { & TEST }");
        fault("cost &n", 5);
        fault("cost n&", 7);
        gives("0&0", 0);
        gives("0&1", 0);
        gives("1&0", 0);
        gives("2&4", 1);
        gives("1&1&0", 0);
        gives("0&1&1", 0);
        gives("3&3&3", 1);
    }

    private static void tests() {
        b.says(26, "TEST: SUM [ (< | = | >) SUM ]");
        for (char first : "<=>".toCharArray()) {
            for (char second : "<=>".toCharArray()) {
                fault("cost 1" + first + "2" + second + "3", 8);
                fault("cost (1" + first + "2)" + second + "3", GOOD);
                fault("cost 1" + first + "(2" + second + "3)", GOOD);
                fault("cost 1" + first + "2&1" + second + "3", GOOD);
                fault("cost 1" + first + "2|1" + second + "3", GOOD);
                fault("cost (1" + first + "2" + second + "3)", 9);
            }
        }
    }

    private static void sums() {
        b.says(26, "SUM: TERM { (+ | -) TERM }");
        gives("1+2+3", 6);
        gives("9-3-2", 4);
        gives("9-3+2", 8);
        gives("9-(3-2)", 8);
        gives("9-(3+2)", 4);
        gives("0-1", -1);
        gives("1-1", 0);
        fault("fee 1+-1", 6);
        fault("fee 1-+1", 6);
    }

    private static void terms() {
        b.says(26, "TERM: PIECE { (* | /) PIECE }");
        gives("2*3*4", 24);
        gives("24/4/2", 3);
        gives("24/(4/2)", 12);
        gives("7/2*2", 6);
        gives("2*7/4", 3);
        gives("2*(7/4)", 2);
        fault("fee 1**1", 6);
        fault("fee 1//1", 6);
        fault("fee 2*-1", 6);
    }

    private static void pieces() {
        b.says(26, "PIECE: NUMBER (1 to 4 digits) | NAME | ! PIECE | ( E ).");
        gives("!0", 1);
        gives("!1", 0);
        gives("!2", 0);
        gives("!(0-1)", 0);
        gives("!!0", 0);
        gives("!!5", 1);
        gives("!0+5", 6);
        gives("!(0+5)", 0);
        gives("!0*5", 5);
        gives("5*!0", 5);
        gives("5-!3", 5);
        gives("!0=1", 1);
        gives("!(0=1)", 1);
        gives("(((7)))", 7);
        gives("(1|0)+(1&1)+(1<2)", 3);
    }

    private static void ninthBracket() {
        b.says(26, "the ninth ( that would be open within others");
        for (int open = 1; open <= 10; open++) {
            String s = "cost " + "(".repeat(open) + "n" + ")".repeat(open);
            fault(s, open <= 8 ? GOOD : 5 + 8);
        }
        fault("cost ((((((((n)))))))) * ((((((((x))))))))", GOOD);
        fault("cost ((((((((n)))))))) * (((((((((x)))))))))", 5 + 17 + 3 + 8);
        fault("cost (((((((n)+(x)+(1)+(2)+(3)+(4)+(5)+(6)+(7)))))))", GOOD);
        fault("cost (((((((n+(x+1)))))))*((2)))", GOOD);
        fault("cost (((((((n+((x)))))))))", 5 + 7 + 2 + 1);
        fault("cost (1)+(2)+(3)+(4)+(5)+(6)+(7)+(8)+(9)+(1)", GOOD);
        fault("cost ((((((((", 13);
        fault("cost (((((((((", 13);
    }

    private static void ninthNot() {
        b.says(26, "the ninth ! likewise");
        for (int open = 1; open <= 10; open++) {
            String s = "cost " + "!".repeat(open) + "n";
            fault(s, open <= 8 ? GOOD : 5 + 8);
        }
        fault("cost !!!!!!!!n + !!!!!!!!x", GOOD);
        fault("cost !!!!!!!!n + !!!!!!!!!x", 5 + 8 + 1 + 3 + 8);
        fault("cost !n+!n+!n+!n+!n+!n+!n+!n+!n+!n", GOOD);
        fault("cost !!!!!!!!", 13);
        fault("cost !!!!!!!!!", 13);
    }

    private static void eachByItself() {
        b.says(26, "the ninth ! likewise, each by itself");
        fault("cost !!!!!!!!((((((((n))))))))", GOOD);
        fault("cost ((((((((!!!!!!!!n))))))))", GOOD);
        fault("cost ((((((((!!!!!!!!!n))))))))", 5 + 16);
        fault("cost !!!!!!!!(((((((((n)))))))))", 5 + 16);
        fault("cost !(!(!(!(!(!(!(!(n))))))))", GOOD);
        fault("cost !(!(!(!(!(!(!(!((n)))))))))", 5 + 16);
        fault("cost !(!(!(!(!(!(!(!(!n))))))))", 5 + 16);
        fault("cost !(!(!(!(!(!(!(!n)))))))+!!!!!!!!x", GOOD);
        fault("cost !(!!!!!!!n+!!!!!!!x)", GOOD);
        fault("cost !(!!!!!!!n+!!!!!!!!x)", 5 + 2 + 7 + 1 + 1 + 7);
        fault("cost !(n)+!!!!!!!!(x)", GOOD);
    }

    private static void allOfTheTape() {
        b.says(26, "THE TAPE is a TEXT: its number.");
        // 96 bytes, as many parts and signs as there can be
        RoundFigures x = new RoundFigures();
        b.due("46 ones", Bounds.tells(x, "fee 1" + "+1".repeat(45) + " "), 0);
        b.due("46 ones", x.fee(), 46);
        b.due("46 ones", x.textTold(0, 1), 46);
        b.due("96 bytes with brackets", Bounds.tells(x, "fee(" + "1-(".repeat(7) + "1+1" + "-1".repeat(26) + ")".repeat(8) + "+22+0033"), 1);
        b.due("96 bytes with brackets", x.textTold(1, 1), 7 + 2 + 26 + 2);
        b.due("96 bytes with brackets", x.fee(), 1 - (1 - (1 - (1 - (1 - (1 - (1 - (1 + 1 - 26))))))) + 55);
        b.due("from the right", Bounds.tells(x, "fee " + "1-(".repeat(8) + "7" + ")".repeat(8)), 2);
        b.due("from the right", x.fee(), 7);
    }

    // ---- promise 26: what it gives

    private static void intsWrap() {
        b.says(26, "Ints wrap");
        gives("8192*8192*32-1", MAX);
        gives("8192*8192*32", MIN);
        gives("8192*8192*32-1+1", MIN);
        gives("0-8192*8192*32-1", MAX);
        gives("8192*8192*64", 0);
        gives("9999*9999*9999", 9999 * 9999 * 9999);
        gives("0-9999*9999*9999", -(9999 * 9999 * 9999));
        gives("8192*8192*32<0", 1);
        gives("8192*8192*32-1>0", 1);
    }

    private static void divisions() {
        b.says(26, "/ is 0 by 0");
        gives("0/0", 0);
        gives("5/0", 0);
        gives("(0-5)/0", 0);
        gives("5/(7-l)", 0);
        gives("1+5/0+1", 2);
        gives("5/0/0", 0);
        gives("5/1", 5);
        b.says(26, "/ cuts towards 0.");
        gives("7/2", 3);
        gives("(0-7)/2", -3);
        gives("7/(0-2)", -3);
        gives("(0-7)/(0-2)", 3);
        gives("1/2", 0);
        gives("(0-1)/2", 0);
        gives("8192*8192*32/(0-1)", MIN);
    }

    private static void testsGive() {
        b.says(26, "tests, & | ! give 1 or 0 (what is not 0 is true");
        gives("3<4", 1);
        gives("4<4", 0);
        gives("5<4", 0);
        gives("3=4", 0);
        gives("4=4", 1);
        gives("5=4", 0);
        gives("3>4", 0);
        gives("4>4", 0);
        gives("5>4", 1);
        gives("(0-1)<0", 1);
        gives("0>(0-1)", 1);
        gives("(0-1)&(0-2)", 1);
        gives("(0-1)|0", 1);
        gives("!(0-1)", 0);
        gives("8192*8192*32&1", 1);
        gives("2&1", 1);
        gives("4|2", 1);
    }

    private static void bothSides() {
        b.says(26, "both sides are worked out");
        gives("1|5/0", 1);
        gives("0&5/0", 0);
        gives("0&1|1", 1);
        gives("1|1&0", 1);
        gives("(1|9)+1", 2);
        gives("(0&9)+1", 1);
    }

    private static void loosestFirst() {
        b.says(26, "E, the loosest first");
        gives("1|0&0", 1);
        gives("(1|0)&0", 0);
        gives("0&0|1", 1);
        gives("1&2>1", 1);
        gives("(1&2)>1", 0);
        gives("2<1+2", 1);
        gives("(2<1)+2", 2);
        gives("1+1=2", 1);
        gives("1+(1=2)", 1);
        gives("2+3*4", 14);
        gives("(2+3)*4", 20);
        gives("9-4/2", 7);
        gives("(9-4)/2", 2);
        gives("2*3+4*5", 26);
        gives("1<2|1/0", 1);
        gives("3>2&2>1", 1);
        gives("1=1&2=2|0", 1);
    }

    private static void namesGive() {
        b.says(26, "of cost n NEED, x, d THE DAY");
        RoundFigures x = new RoundFigures();
        x.traveller(0, 7, 3);
        Bounds.tells(x, "cost n*100+x");
        b.due("n and x", x.costs(0, 19), 719);
        Bounds.tells(x, "cost d*10+1");
        x.days(3);
        b.due("d", x.costs(0, 0), 31);
        b.due("on a day d is that of its morning", x.claim(0, 0), 21);
        b.due("SPENT", x.told(0, 3), 1 + 11 + 21);
    }

    // ---- promises 27, 28

    private static void textToldBounds() {
        b.says(27, "Of a TEXT: what 0 KEY (0 cost, 1 fee, 2 fine), 1 how many NUMBERS and NAMES it has. BAD.");
        RoundFigures x = new RoundFigures();
        b.due("textTold(0, 0) of none", x.textTold(0, 0), BAD);
        Bounds.tells(x, "fine 7");
        b.due("textTold(1, 0) of one", x.textTold(1, 0), BAD);
        Bounds.tells(x, "fee p+l*(!3-22)");
        Bounds.tells(x, "cost nn");
        Bounds.tells(x, "cost n/1234");
        int[][] want = {{2, 1}, {1, 4}, {0, 2}};
        for (int i = 0; i < 3; i++) {
            b.due("KEY of " + i, x.textTold(i, 0), want[i][0]);
            b.due("parts of " + i, x.textTold(i, 1), want[i][1]);
        }
        b.due("textTold(3, 0) of three", x.textTold(3, 0), BAD);
        for (int text : new int[] {-1, 2, 13, 14, MIN, MAX}) {
            b.refused("text " + text + " of two", BAD, Bounds::some, y -> y.textTold(text, 0));
        }
        for (int what : new int[] {-1, 2, MIN, MAX}) {
            b.refused("what " + what, BAD, Bounds::some, y -> y.textTold(0, what));
        }
        b.due("text 13 of 14", Bounds.made(Bounds::full).textTold(13, 0), 1);
        b.refused("text 14 of 14", BAD, Bounds::full, y -> y.textTold(14, 0));
        // behind back() there is no such text
        RoundFigures y = new RoundFigures();
        y.keep();
        Bounds.tells(y, "fee 1");
        y.back();
        b.due("text 0 of none", y.textTold(0, 0), BAD);
    }

    private static void whyTheLast() {
        b.says(28, "Of a KEY that TEXT counts that was told last.");
        RoundFigures x = new RoundFigures();
        String[] keys = {"cost ", "fee ", "fine "};
        int[] last = {NONE, NONE, NONE};
        int[] order = {1, 1, 0, 2, 0, 1, 2, 2};
        for (int i = 0; i < order.length; i++) {
            Bounds.tells(x, keys[order[i]] + i);
            Bounds.tells(x, keys[order[i]] + "+");
            last[order[i]] = i;
            for (int key = 0; key < 3; key++) {
                b.due("why(" + key + ") behind " + (i + 1), x.why(key), last[key]);
            }
        }
        b.due("fee()", x.fee(), 5);
        b.says(28, "The TEXT that counts for a KEY. BAD; NONE.");
        for (int key : new int[] {-1, 3, MIN, MAX}) {
            b.refused("why(" + key + ")", BAD, Bounds::some, y -> y.why(key));
        }
        b.refused("why(2)", NONE, Bounds::some, y -> y.why(2));
        for (int key = 0; key < 3; key++) {
            int of = key;
            b.refused("why(" + key + ") of none", NONE, Bounds::nothing, y -> y.why(of));
        }
    }
}
