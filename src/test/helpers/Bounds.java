import java.io.IOException;
import java.nio.file.Files;
import java.nio.file.Path;
import java.util.ArrayList;
import java.util.List;
import java.util.TreeSet;

/** What the tests by sentence share: which sentence is tested, what is due, what a refused call must leave as it was. */
final class Bounds {
    static final int BAD = RoundFigures.BAD, NO = RoundFigures.NO, FULL = RoundFigures.FULL, NONE = RoundFigures.NONE;
    static final int NOTHING = RoundFigures.NOTHING, KIND = RoundFigures.KIND, INDEX = RoundFigures.INDEX, SIZE = RoundFigures.SIZE;
    static final int MIN = Integer.MIN_VALUE, MAX = Integer.MAX_VALUE;
    private static final int MOST_SECONDS = 120;

    interface Script {
        void on(RoundFigures x);
    }

    interface Call {
        int on(RoundFigures x);
    }

    /** Made when they are first wanted: a call that never ends must not stop this class from watching. */
    private static int[] rowsOfFull;

    private final String name;
    private final String document;
    private final TreeSet<Integer> promises = new TreeSet<>();
    private String sentence = "";
    private int promise;
    private int sentences;
    private int wrong;

    Bounds(String name) {
        watch(name);
        this.name = name;
        this.document = documentHere();
    }

    /** A call that never ends is wrong too: without this no test would ever tell it. */
    static void watch(String name) {
        Thread watcher = new Thread(() -> {
            try {
                Thread.sleep(MOST_SECONDS * 1000L);
            } catch (InterruptedException e) {
                return;
            }
            System.out.println(name + ": a call does not end, or takes far too long");
            System.out.flush();
            Runtime.getRuntime().halt(1);
        });
        watcher.setDaemon(true);
        watcher.start();
    }

    private static String documentHere() {
        try {
            return Files.readString(Path.of("../shared/DOC.md")).replaceAll("\\s+", " ");
        } catch (IOException e) {
            return "";
        }
    }

    /** The sentence whose tests follow. If the document says it no longer, that is told; it is no wrong answer. */
    void says(int ofPromise, String words) {
        promise = ofPromise;
        promises.add(ofPromise);
        sentence = words;
        sentences++;
        if (!document.contains(words)) {
            System.out.println(name + ": the document does not say '" + words + "'");
        }
    }

    void due(String call, int got, int want) {
        if (got != want) {
            wrong++;
            System.out.println("promise " + promise + ", '" + sentence + "': " + call + " answered " + got + ", due is " + want);
        }
    }

    /** In this state the call is refused so, and all that can be seen is as it would be without it. */
    void refused(String call, int want, Script state, Call refusedCall) {
        refusedBut(call, want, state, refusedCall, x -> { });
    }

    /** As refused, but for what the document lets the call use up: that much is done by other means. */
    void refusedBut(String call, int want, Script state, Call refusedCall, Script usedUp) {
        RoundFigures with = made(state);
        due(call, refusedCall.on(with), want);
        RoundFigures without = made(state);
        usedUp.on(without);
        same(call + " must change nothing", with, without);
    }

    void changesNothing(String call, Script state, Call thought) {
        RoundFigures with = made(state);
        thought.on(with);
        same(call + " must change nothing", with, made(state));
    }

    /** All that can be seen of the two is the same (both are used up by looking). */
    void same(String what, RoundFigures one, RoundFigures other) {
        List<Integer> first = new ArrayList<>();
        List<Integer> second = new ArrayList<>();
        see(one, first);
        see(other, second);
        due(what + ": how much is seen", first.size(), second.size());
        for (int i = 0; i < first.size() && i < second.size(); i++) {
            if (!first.get(i).equals(second.get(i))) {
                due(what + ": what is seen at " + i, first.get(i), second.get(i));
                return;
            }
        }
    }

    void end(int firstPromise, int lastPromise) {
        for (int i = firstPromise; i <= lastPromise; i++) {
            if (!promises.contains(i)) {
                wrong++;
                System.out.println(name + ": promise " + i + " has no test");
            }
        }
        System.out.println(name + ": " + sentences + " sentences, " + (wrong == 0 ? "all answers are as due" : wrong + " answers are not as due"));
        if (wrong != 0) {
            System.exit(1);
        }
    }

    static RoundFigures made(Script state) {
        RoundFigures x = new RoundFigures();
        state.on(x);
        return x;
    }

    // ---- texts

    static void feeds(RoundFigures x, String s) {
        for (int i = 0; i < s.length(); i += 12) {
            x.feed(four(s, i), four(s, i + 4), four(s, i + 8));
        }
        x.trim(s.length());
    }

    static int tells(RoundFigures x, String s) {
        feeds(x, s);
        return x.text();
    }

    /** Behind the end stand letters, so that a tape that is not cut off is no text. */
    private static int four(String s, int at) {
        int v = 0;
        for (int i = at; i < at + 4; i++) {
            v = v << 8 | (i < s.length() ? s.charAt(i) & 255 : 'z');
        }
        return v;
    }

    // ---- draws

    static int next(int z) {
        return (int) (z * 1103515245L + 12345L);
    }

    static int zAfter(int z, int draws) {
        int v = z;
        for (int i = 0; i < draws; i++) {
            v = next(v);
        }
        return v;
    }

    /** What draw number i (from 1 on) from z gives. */
    static int drawn(int z, int i) {
        return (int) ((zAfter(z, i) & 0xffffffffL) / 256);
    }

    // ---- states

    static void nothing(RoundFigures x) {
    }

    /** Something of everything: three travellers, two texts, sheets, slots, an image, four numbers that wait, a tape. */
    static void some(RoundFigures x) {
        x.seed(77);
        x.traveller(2, 40, 9);
        x.traveller(5, 7, 3);
        x.traveller(1, 33, 20);
        tells(x, "cost n+x");
        tells(x, "fee p*3-l");
        x.rule(1, 2);
        x.days(5);
        things(x);
        x.keep();
        waits(x, 2);
        x.rule(0, 61);
        x.turns(1, 4);
        x.set(2, 1, 12);
        feeds(x, "fine s+c*9");
    }

    /** Shorts, floats (one no number), floats without places, a missing one; of each thing a slot that holds it. */
    private static void things(RoundFigures x) {
        x.sheet(0, 0, 3);
        x.mark(0, 0, -5);
        x.mark(0, 1, 60);
        x.mark(0, 2, 300);
        x.sheet(1, 1, 3);
        x.mark(1, 0, 99999);
        x.mark(1, 1, NONE);
        x.mark(1, 2, -1);
        x.sheet(2, 1, 0);
        x.lay(0, 1, 0);
        x.lay(1, 2, 0);
        x.lay(2, 3, -77);
        x.lay(4, 2, 1);
        x.mark(0, 0, 6);
        x.mark(1, 2, 8);
    }

    /** The days told, by the image that was just kept. */
    private static void waits(RoundFigures x, int days) {
        for (int i = 0; i < days; i++) {
            x.days(1);
            x.tell(x.coins(1));
            x.tell(x.coins(2));
        }
    }

    /** No room for a traveller, a text, a byte, a number that waits. */
    static void full(RoundFigures x) {
        fullButForRows(x);
        if (rowsOfFull == null) {
            rowsOfFull = makeRowsOfFull();
        }
        for (int told : rowsOfFull) {
            x.tell(told);
        }
        feeds(x, "fee" + " ".repeat(92) + "7");
    }

    private static void fullButForRows(RoundFigures x) {
        x.seed(5);
        x.deal(8);
        for (int i = 0; i < 14; i++) {
            tells(x, new String[] {"cost n+x+", "fee p-", "fine s*"}[i % 3] + i);
        }
        x.rule(1, 3);
        x.days(2);
        x.keep();
    }

    private static int[] makeRowsOfFull() {
        RoundFigures x = made(Bounds::fullButForRows);
        int[] rows = new int[60];
        for (int i = 0; i < rows.length; i += 2) {
            x.days(1);
            rows[i] = x.coins(1);
            rows[i + 1] = x.coins(2);
        }
        return rows;
    }

    /** As some, but on the last day; the image is of an early one. */
    static void onTheLastDay(RoundFigures x) {
        some(x);
        toDay(x, 9999);
    }

    static void toDay(RoundFigures x, int day) {
        for (int left = day - x.count(1); left > 0; left -= 100) {
            x.days(Math.min(left, 100));
        }
    }

    // ---- all that can be seen

    /** What looks may change only what was seen already. With what made the state it stays within 512 calls. */
    private static void see(RoundFigures x, List<Integer> all) {
        seeState(x, all);
        seeTexts(x, all);
        seeSlots(x, all);
        all.add(x.check(Math.max(1, x.count(6) / 2)));
        seeTape(x, all);
        seeSheets(x, all);
        all.add(x.back());
        seeState(x, all);
    }

    /** SIGNS and WORTH follow from what is seen here. */
    private static void seeState(RoundFigures x, List<Integer> all) {
        for (int what = 0; what < 9; what++) {
            all.add(x.count(what));
        }
        int travellers = x.count(0);
        for (int i = 0; i < travellers; i++) {
            for (int what = 0; what < 7; what++) {
                all.add(x.told(i, what));
            }
            for (int k = 0; k < 6; k++) {
                all.add(x.claim(i, k));
            }
        }
        for (int key = 0; key < 3; key++) {
            all.add(x.why(key));
        }
        all.add(x.fee());
        all.add(x.fine(0));
        all.add(x.behind(3, 1));
    }

    private static void seeTexts(RoundFigures x, List<Integer> all) {
        int texts = x.count(5);
        for (int i = 0; i < texts; i++) {
            all.add(x.textTold(i, 0));
            all.add(x.textTold(i, 1));
        }
    }

    private static void seeSlots(RoundFigures x, List<Integer> all) {
        for (int slot = 0; slot < 5; slot++) {
            all.add(x.ask(slot, 0));
            if (all.get(all.size() - 1) != NOTHING) {
                for (int kind = 1; kind < 6; kind++) {
                    all.add(x.ask(slot, kind));
                }
                all.add(x.rest(slot, MIN));
                all.add(x.rest(slot, 1000));
                seeItems(x, slot, all);
            }
        }
    }

    private static void seeItems(RoundFigures x, int slot, List<Integer> all) {
        int last = 0;
        for (int place = 0; place < 25 && last != INDEX && last != NOTHING; place++) {
            last = x.item(slot, place);
            all.add(last);
        }
    }

    private static void seeTape(RoundFigures x, List<Integer> all) {
        all.add(x.text());
        all.add(x.fee());
        all.add(x.fine(0));
        all.add(x.costs(0, 7));
    }

    private static void seeSheets(RoundFigures x, List<Integer> all) {
        for (int sheet = 0; sheet < 4; sheet++) {
            x.lay(0, 0, 0);
            all.add(x.lay(0, 2, sheet));
            seeItems(x, 0, all);
        }
        // of rows without places the sort shows by what they can be copied to
        for (int sheet = 1; sheet < 4; sheet++) {
            for (int other = 0; other < sheet; other++) {
                all.add(x.copy(sheet, 0, other, 0, 0));
            }
        }
        for (int sheet = 0; sheet < 4; sheet++) {
            all.add(x.mark(sheet, 0, NONE));
        }
    }
}
