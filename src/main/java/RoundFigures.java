/** Travellers who claim what they spent, or more, and the checkers who look at their claims. */
public final class RoundFigures {
    public static final int BAD = -1000000001, NO = -1000000002, FULL = -1000000003, NONE = -1000000005, NOTHING = -1000000011, KIND = -1000000012, INDEX = -1000000013, SIZE = -1000000014;

    private static final int MOST_TRAVELLERS = 8, KINDS = 6, MOST_CLAIMS = 6, MOST_NEED = 99, MOST_BENT = 99;
    private static final int ROUNDER = 1, PADDER = 2, TENNER = 3, CLIMBER = 4, GHOST = 5;
    private static final int[] KIND_ABOVE = {-1, 0, 0, 1, 2, 0};
    private static final int CLIMBING_DAYS = 20;

    private static final int MOST_LINE = 999, MOST_LOOKS = 8, LAST_DAY = 9999, COST_SPAN = 20, MOST_COST = 999;
    private static final int BY_LOT = 0, BY_SIGNS = 1;
    private static final int LINES_THOUGHT = 120, BENTS_THOUGHT = 40;

    private static final int MOST_TEXTS = 14, MOST_BYTES = 96, BYTES_FED = 12, BLANK = 32;
    private static final int KEYS = 3, COST = 0, FEE = 1, FINE = 2;
    private static final int MOST_OPEN = 8, MOST_DIGITS = 4, FAULT_BASE = -100;
    /** In a text's code: below NAMES a number by itself, from NAMES on a name, from SIGNS_OF on a sign. */
    private static final int NAMES = 10000, SIGNS_OF = 20000;

    private static final int SHEETS = 4, MOST_PLACES = 24, MISSING = -1, SHORTS = 0, FLOATS = 1, MOST_FLOAT = 99999;
    private static final int SLOTS = 5, HOLDS_NOTHING = 0, HOLDS_TRAVELLER = 1, HOLDS_SHEET = 2, HOLDS_NUMBER = 3;
    private static final int MOST_WAITING = 60;

    private final Laws laws = new Laws();
    private final World now = new World(laws);
    private final World image = new World(laws);
    /** What is only thought happens here, so that nothing is made anew for it. */
    private final World thought = new World(laws);
    private final Least least = new Least();
    private boolean kept = false;

    private final int[] tape = new int[MOST_BYTES];
    private int tapeLength = 0;
    private final Reader reader = new Reader(tape);

    private final Row[] sheets = new Row[SHEETS];
    private final Slot[] slots = new Slot[SLOTS];
    private final int[] waiting = new int[MOST_WAITING];
    private int waitingCount = 0;

    public RoundFigures() {
        for (int i = 0; i < SHEETS; i++) {
            sheets[i] = new Row();
        }
        for (int i = 0; i < SLOTS; i++) {
            slots[i] = new Slot();
        }
    }

    // ---- travellers

    public int traveller(int kind, int need, int bent) {
        if (!isKind(kind) || !within(need, 0, MOST_NEED) || !within(bent, 0, MOST_BENT)) {
            return BAD;
        }
        if (now.count >= MOST_TRAVELLERS) {
            return FULL;
        }
        return now.comes(kind, need, bent);
    }

    public int told(int traveller, int what) {
        if (!isTraveller(traveller)) {
            return BAD;
        }
        Traveller one = now.travellers[traveller];
        switch (what) {
            case 0: return one.kind;
            case 1: return one.need;
            case 2: return one.bent;
            case 3: return one.spent;
            case 4: return one.claimed;
            case 5: return one.caught;
            case 6: return one.daysSince;
            case 7: return one.signsAt(now.line);
            case 8: return one.worth();
            default: return BAD;
        }
    }

    public int claim(int traveller, int i) {
        if (!isTraveller(traveller) || !within(i, 0, MOST_CLAIMS - 1)) {
            return BAD;
        }
        return now.travellers[traveller].claims[i];
    }

    public int costs(int traveller, int x) {
        if (!isTraveller(traveller) || !within(x, 0, COST_SPAN - 1)) {
            return BAD;
        }
        return now.costOf(now.travellers[traveller], x);
    }

    public int asksFor(int traveller, int c) {
        if (!isTraveller(traveller) || !within(c, 0, MOST_COST)) {
            return BAD;
        }
        return now.travellers[traveller].wants(c, now.line);
    }

    public int as(int traveller, int kind) {
        if (!isTraveller(traveller) || !isKind(kind)) {
            return BAD;
        }
        Traveller one = now.travellers[traveller];
        return one.isOf(kind) ? one.need : KIND;
    }

    public int turns(int traveller, int kind) {
        if (!isTraveller(traveller) || !isKind(kind)) {
            return BAD;
        }
        Traveller one = now.travellers[traveller];
        int was = one.kind;
        one.kind = kind;
        return was;
    }

    public int set(int traveller, int what, int v) {
        if (!isTraveller(traveller)) {
            return BAD;
        }
        Traveller one = now.travellers[traveller];
        if (what == 1 && within(v, 0, MOST_NEED)) {
            int was = one.need;
            one.need = v;
            return was;
        }
        if (what == 2 && within(v, 0, MOST_BENT)) {
            int was = one.bent;
            one.bent = v;
            return was;
        }
        return BAD;
    }

    public int deal(int n) {
        if (!within(n, 1, MOST_TRAVELLERS)) {
            return BAD;
        }
        int come = Math.min(n, MOST_TRAVELLERS - now.count);
        for (int i = 0; i < come; i++) {
            int kind = now.draw() % KINDS;
            int need = now.draw() % 60;
            int bent = now.draw() % 30;
            now.comes(kind, need, bent);
        }
        return come;
    }

    public int seed(int v) {
        int was = now.z;
        now.z = v;
        return was;
    }

    // ---- days, looks

    public int rule(int what, int v) {
        int was = BAD;
        if (what == 0 && within(v, 1, MOST_LINE)) {
            was = now.line;
            now.line = v;
        } else if (what == 1 && within(v, 0, MOST_LOOKS)) {
            was = now.looks;
            now.looks = v;
        } else if (what == 2 && within(v, BY_LOT, BY_SIGNS)) {
            was = now.mode;
            now.mode = v;
        }
        return was;
    }

    public int days(int n) {
        if (!within(n, 1, 100)) {
            return BAD;
        }
        return now.pass(Math.min(n, LAST_DAY - now.day));
    }

    public int coins(int what) {
        switch (what) {
            case 0: return now.spentOfAll();
            case 1: return now.claimedOfAll();
            case 2: return now.pad();
            case 3: return now.caughtOfAll();
            case 4: return now.count == 0 ? NONE : now.mostSigns();
            default: return BAD;
        }
    }

    // ---- what will be

    public int behind(int n, int what) {
        if (!within(n, 0, 100) || !within(what, 0, 2 + now.count)) {
            return BAD;
        }
        thought.become(now);
        thought.pass(n);
        switch (what) {
            case 0: return thought.pad();
            case 1: return thought.claimedOfAll();
            case 2: return thought.caughtOfAll();
            default: return thought.travellers[what - 3].signsAt(thought.line);
        }
    }

    public int bestLine(int n, int what) {
        if (!within(n, 1, 30) || !within(what, 0, 1)) {
            return BAD;
        }
        least.begin();
        for (int line = 1; line <= LINES_THOUGHT; line++) {
            thought.become(now);
            thought.line = line;
            thought.pass(n);
            least.offer(line, thought.pad());
        }
        return what == 0 ? least.place : least.sum;
    }

    public int bestLooks(int n, int p, int what) {
        if (!within(n, 1, 60) || !within(p, 0, 999) || !within(what, 0, 1)) {
            return BAD;
        }
        least.begin();
        for (int looks = 0; looks <= MOST_LOOKS; looks++) {
            thought.become(now);
            thought.looks = looks;
            thought.pass(n);
            least.offer(looks, thought.pad() + p * looks * n);
        }
        return what == 0 ? least.place : least.sum;
    }

    public int without(int n, int what) {
        if (!within(n, 1, 60) || !within(what, 0, 1)) {
            return BAD;
        }
        if (now.count == 0) {
            return NONE;
        }
        least.begin();
        for (int who = 0; who < now.count; who++) {
            thought.become(now);
            thought.absent = who;
            thought.pass(n);
            least.offer(who, thought.pad());
        }
        return what == 0 ? least.place : least.sum;
    }

    public int flat(int n) {
        if (!within(n, 1, 60)) {
            return BAD;
        }
        int shares = n * now.count;
        if (shares == 0) {
            return NONE;
        }
        thought.become(now);
        thought.pass(n);
        int more = thought.claimedOfAll() - now.claimedOfAll();
        return (more + shares - 1) / shares;
    }

    public int standsOut(int traveller, int n) {
        if (!isTraveller(traveller) || !within(n, 1, 60)) {
            return BAD;
        }
        thought.become(now);
        int often = 0;
        for (int i = 0; i < n; i++) {
            thought.pass(1);
            if (thought.standsAlone(traveller)) {
                often++;
            }
        }
        return often;
    }

    public int bentBy(int sheet, int traveller, int what) {
        if (!isSheet(sheet) || !isTraveller(traveller) || !within(what, 0, 1)) {
            return BAD;
        }
        if (sheets[sheet].sort == MISSING) {
            return NOTHING;
        }
        least.begin();
        for (int bent = 0; bent <= BENTS_THOUGHT; bent++) {
            least.offer(bent, differencesBy(sheets[sheet], traveller, bent));
        }
        return what == 0 ? least.place : least.sum;
    }

    public int fee() {
        return laws.gives(now.counting[FEE], now.pad(), now.looks, 0, now.pad());
    }

    public int fine(int traveller) {
        if (!isTraveller(traveller)) {
            return BAD;
        }
        Traveller one = now.travellers[traveller];
        int signs = one.signsAt(now.line);
        return laws.gives(now.counting[FINE], signs, one.caught, 0, signs);
    }

    // ---- texts

    public int feed(int a, int b, int c) {
        if (tapeLength + BYTES_FED > MOST_BYTES) {
            return FULL;
        }
        putBytes(tapeLength, a);
        putBytes(tapeLength + 4, b);
        putBytes(tapeLength + 8, c);
        tapeLength += BYTES_FED;
        return tapeLength;
    }

    public int trim(int n) {
        if (!within(n, 0, tapeLength)) {
            return BAD;
        }
        tapeLength = n;
        return n;
    }

    public int text() {
        int length = tapeLength;
        tapeLength = 0;
        if (!reader.isText(length)) {
            return FAULT_BASE - reader.start;
        }
        if (now.texts >= MOST_TEXTS) {
            return FULL;
        }
        int number = now.texts;
        laws.texts[number] = reader.made();
        now.counting[reader.key] = number;
        now.texts++;
        return number;
    }

    public int textTold(int text, int what) {
        if (!within(text, 0, now.texts - 1) || !within(what, 0, 1)) {
            return BAD;
        }
        Text one = laws.texts[text];
        if (one == null) {
            return BAD;
        }
        return what == 0 ? one.key : one.parts;
    }

    public int why(int key) {
        if (!within(key, 0, KEYS - 1)) {
            return BAD;
        }
        return now.counting[key];
    }

    // ---- sheets, slots

    public int sheet(int sheet, int sort, int n) {
        if (!isSheet(sheet) || !within(sort, MISSING, FLOATS)) {
            return BAD;
        }
        if (sort == MISSING) {
            sheets[sheet].begin(MISSING, 0);
            return 0;
        }
        if (n > MOST_PLACES) {
            return BAD;
        }
        if (n < 0) {
            return SIZE;
        }
        sheets[sheet].begin(sort, n);
        return n;
    }

    public int mark(int sheet, int place, int v) {
        if (!isSheet(sheet)) {
            return BAD;
        }
        Row row = sheets[sheet];
        if (row.sort == MISSING) {
            return NOTHING;
        }
        if (!within(place, 0, row.size - 1)) {
            return INDEX;
        }
        if (row.sort == SHORTS) {
            if (v == NONE) {
                return KIND;
            }
            row.places[place] = (short) v;
            return 1;
        }
        if (v != NONE && !within(v, -MOST_FLOAT, MOST_FLOAT)) {
            return BAD;
        }
        row.places[place] = v;
        return 1;
    }

    public int pour(int sheet) {
        if (!isSheet(sheet)) {
            return BAD;
        }
        Row row = sheets[sheet];
        if (row.sort == MISSING) {
            return NOTHING;
        }
        int otherwise = 0;
        for (int i = 0; i < now.count && i < row.size; i++) {
            if (row.isNumber(i)) {
                int need = held(row.places[i], 0, MOST_NEED);
                if (need != now.travellers[i].need) {
                    now.travellers[i].need = need;
                    otherwise++;
                }
            }
        }
        return otherwise;
    }

    public int reads(int sheet) {
        if (!isSheet(sheet)) {
            return BAD;
        }
        Row row = sheets[sheet];
        if (row.sort == MISSING) {
            return NOTHING;
        }
        for (int i = 0; i < row.size; i++) {
            if (row.isNumber(i) && (i >= now.count || row.places[i] != now.travellers[i].claims[0])) {
                return i;
            }
        }
        return NONE;
    }

    public int copy(int from, int place, int to, int at, int many) {
        if (!isSheet(from) || !isSheet(to)) {
            return BAD;
        }
        Row source = sheets[from];
        Row target = sheets[to];
        if (source.sort == MISSING || target.sort == MISSING) {
            return NOTHING;
        }
        if (source.sort != target.sort) {
            return KIND;
        }
        if (!source.hasPlaces(place, many) || !target.hasPlaces(at, many)) {
            return INDEX;
        }
        System.arraycopy(source.places, place, target.places, at, many);
        return many;
    }

    public int lay(int slot, int thing, int k) {
        if (!isSlot(slot) || !within(thing, HOLDS_NOTHING, HOLDS_NUMBER)) {
            return BAD;
        }
        if (thing == HOLDS_TRAVELLER && !isTraveller(k)) {
            return BAD;
        }
        if (thing == HOLDS_SHEET && !isSheet(k)) {
            return BAD;
        }
        if (thing == HOLDS_SHEET && sheets[k].sort == MISSING) {
            return NOTHING;
        }
        Slot one = slots[slot];
        int was = one.thing;
        one.thing = thing;
        if (thing == HOLDS_TRAVELLER) {
            one.traveller.become(now.travellers[k]);
        } else if (thing == HOLDS_SHEET) {
            one.row.become(sheets[k]);
        } else if (thing == HOLDS_NUMBER) {
            one.number = k;
        }
        return was;
    }

    public int ask(int slot, int kind) {
        if (!isSlot(slot) || !isKind(kind)) {
            return BAD;
        }
        Slot one = slots[slot];
        if (one.thing != HOLDS_TRAVELLER) {
            return one.otherThan();
        }
        return one.traveller.isOf(kind) ? one.traveller.worth() : KIND;
    }

    public int item(int slot, int place) {
        if (!isSlot(slot)) {
            return BAD;
        }
        Slot one = slots[slot];
        if (one.thing != HOLDS_SHEET) {
            return one.otherThan();
        }
        if (!within(place, 0, one.row.size - 1)) {
            return INDEX;
        }
        return one.row.isNumber(place) ? one.row.places[place] : KIND;
    }

    public int rest(int slot, int n) {
        if (!isSlot(slot)) {
            return BAD;
        }
        Slot one = slots[slot];
        if (one.thing != HOLDS_NUMBER) {
            return one.otherThan();
        }
        return n == 0 ? NO : one.number % n;
    }

    // ---- rows, images

    public int tell(int v) {
        if (waitingCount >= MOST_WAITING) {
            return FULL;
        }
        waiting[waitingCount] = v;
        waitingCount++;
        return waitingCount;
    }

    public int check(int n) {
        int many = waitingCount;
        waitingCount = 0;
        if (!within(n, 1, 30)) {
            return BAD;
        }
        if (!kept) {
            return NO;
        }
        thought.become(image);
        int right = 0;
        int told = Math.min(n, LAST_DAY - image.day);
        for (int i = 0; i < told; i++) {
            thought.pass(1);
            if (right >= many || waiting[right] != thought.claimedOfAll()) {
                return 1 + right;
            }
            right++;
            if (right >= many || waiting[right] != thought.pad()) {
                return 1 + right;
            }
            right++;
        }
        return right == many ? 0 : 1 + right;
    }

    public int keep() {
        image.become(now);
        kept = true;
        return image.count;
    }

    public int back() {
        if (!kept) {
            return NO;
        }
        now.become(image);
        return now.count;
    }

    public int count(int what) {
        switch (what) {
            case 0: return now.count;
            case 1: return now.day;
            case 2: return now.line;
            case 3: return now.looks;
            case 4: return now.mode;
            case 5: return now.texts;
            case 6: return waitingCount;
            case 7: return tapeLength;
            case 8: return now.z;
            default: return BAD;
        }
    }

    // ---- what the calls share

    private static boolean within(int v, int least, int most) {
        return v >= least && v <= most;
    }

    private static int held(int v, int least, int most) {
        return Math.max(least, Math.min(most, v));
    }

    private static boolean isKind(int kind) {
        return within(kind, 0, KINDS - 1);
    }

    private static boolean isSheet(int sheet) {
        return within(sheet, 0, SHEETS - 1);
    }

    private static boolean isSlot(int slot) {
        return within(slot, 0, SLOTS - 1);
    }

    private boolean isTraveller(int traveller) {
        return within(traveller, 0, now.count - 1);
    }

    private int differencesBy(Row row, int traveller, int bent) {
        thought.become(now);
        Traveller one = thought.travellers[traveller];
        one.bent = bent;
        int differences = 0;
        for (int k = 0; k < row.size; k++) {
            if (k > 0) {
                thought.pass(1);
            }
            if (row.isNumber(k)) {
                differences += Math.abs(one.claimed - row.places[k]);
            }
        }
        return differences;
    }

    private void putBytes(int at, int number) {
        tape[at] = number >>> 24;
        tape[at + 1] = number >>> 16 & 255;
        tape[at + 2] = number >>> 8 & 255;
        tape[at + 3] = number & 255;
    }

    /** One who travels; by its kind it asks for more or less than it spent. */
    private static final class Traveller {
        int kind;
        int need;
        int bent;
        int spent;
        int claimed;
        int caught;
        int daysSince;
        final int[] claims = new int[MOST_CLAIMS];
        /** Of the day that runs: what it asked for above what it cost, its signs, and whether it was looked at. */
        int above;
        int signs;
        boolean looked;

        void begin(int newKind, int newNeed, int newBent) {
            kind = newKind;
            need = newNeed;
            bent = newBent;
            spent = 0;
            claimed = 0;
            caught = 0;
            daysSince = 0;
            for (int i = 0; i < MOST_CLAIMS; i++) {
                claims[i] = 0;
            }
        }

        void become(Traveller other) {
            kind = other.kind;
            need = other.need;
            bent = other.bent;
            spent = other.spent;
            claimed = other.claimed;
            caught = other.caught;
            daysSince = other.daysSince;
            System.arraycopy(other.claims, 0, claims, 0, MOST_CLAIMS);
        }

        boolean isOf(int wanted) {
            int at = kind;
            for (int i = 0; i < KINDS && at >= 0; i++) {
                if (at == wanted) {
                    return true;
                }
                at = KIND_ABOVE[at];
            }
            return false;
        }

        int wants(int cost, int line) {
            switch (kind) {
                case ROUNDER: return (cost + 4) / 5 * 5;
                case TENNER: return (cost + 9) / 10 * 10;
                case PADDER: return padded(cost, bent, line);
                case CLIMBER: return padded(cost, bent + 2 * Math.min(daysSince, CLIMBING_DAYS), line);
                case GHOST: return Math.max(cost, line - 1);
                default: return cost;
            }
        }

        private static int padded(int cost, int more, int line) {
            int sum = cost + more;
            return sum >= line && cost < line ? line - 1 : sum;
        }

        int worth() {
            switch (kind) {
                case ROUNDER: return need + 5;
                case TENNER: return 2 * (need + 5);
                case PADDER: return MOST_BENT - bent;
                case CLIMBER: return MOST_BENT - bent - 9;
                case GHOST: return 1;
                default: return need;
            }
        }

        int signsAt(int line) {
            int sum = 0;
            for (int i = 0; i < MOST_CLAIMS; i++) {
                int one = claims[i];
                if (one > 0) {
                    int last = one % 10;
                    sum += last == 0 ? 2 : last == 5 ? 1 : 0;
                    sum += one == line - 1 ? 4 : 0;
                    sum += i + 1 < MOST_CLAIMS && one == claims[i + 1] ? 3 : 0;
                }
            }
            return sum;
        }

        void asksOn(int cost, int line) {
            int asked = wants(cost, line);
            above = asked - cost;
            spent += cost;
            claimed += asked;
            System.arraycopy(claims, 0, claims, 1, MOST_CLAIMS - 1);
            claims[0] = asked;
        }

        /** Whether it is caught by this look. */
        boolean isCaught() {
            boolean first = !looked;
            looked = true;
            if (!first || above <= 0) {
                return false;
            }
            caught++;
            claimed -= above;
            bent /= 2;
            // the day's end makes this 0
            daysSince = -1;
            return true;
        }
    }

    /** All that an image keeps: travellers, rules, the day, the lot, which texts count. */
    private static final class World {
        final Laws laws;
        final Traveller[] travellers = new Traveller[MOST_TRAVELLERS];
        int count = 0;
        int line = 50;
        int looks = 1;
        int mode = BY_LOT;
        int day = 0;
        int z = 1;
        int texts = 0;
        /** By key the text that counts, or NONE. */
        final int[] counting = {NONE, NONE, NONE};
        /** The one that is thought away, or NONE. */
        int absent = NONE;

        World(Laws shared) {
            laws = shared;
            for (int i = 0; i < MOST_TRAVELLERS; i++) {
                travellers[i] = new Traveller();
            }
        }

        void become(World other) {
            for (int i = 0; i < other.count; i++) {
                travellers[i].become(other.travellers[i]);
            }
            count = other.count;
            line = other.line;
            looks = other.looks;
            mode = other.mode;
            day = other.day;
            z = other.z;
            texts = other.texts;
            System.arraycopy(other.counting, 0, counting, 0, KEYS);
            absent = NONE;
        }

        int comes(int kind, int need, int bent) {
            travellers[count].begin(kind, need, bent);
            count++;
            return count - 1;
        }

        int draw() {
            z = z * 1103515245 + 12345;
            return z >>> 8;
        }

        int costOf(Traveller one, int x) {
            return held(laws.gives(counting[COST], one.need, x, day, one.need + x), 0, MOST_COST);
        }

        /** How many are caught in so many days. */
        int pass(int n) {
            int caught = 0;
            for (int i = 0; i < n; i++) {
                travel();
                caught += mode == BY_LOT ? lookByLot() : lookBySigns();
                day++;
                for (int k = 0; k < count; k++) {
                    travellers[k].daysSince++;
                }
            }
            return caught;
        }

        private void travel() {
            for (int i = 0; i < count; i++) {
                int x = draw() % COST_SPAN;
                Traveller one = travellers[i];
                // who is absent counts as looked at already, so no look finds it
                one.looked = i == absent;
                if (i != absent) {
                    one.asksOn(costOf(one, x), line);
                }
            }
        }

        private int lookByLot() {
            int caught = 0;
            for (int i = 0; i < looks && i < count; i++) {
                if (travellers[draw() % count].isCaught()) {
                    caught++;
                }
            }
            return caught;
        }

        private int lookBySigns() {
            if (looks == 0) {
                return 0;
            }
            countSigns();
            int caught = 0;
            for (int i = 0; i < looks && i < count; i++) {
                int at = mostSignsUnlooked();
                if (at >= 0 && travellers[at].isCaught()) {
                    caught++;
                }
            }
            return caught;
        }

        /** A day's signs stay as they are while its looks go on: they are counted once. */
        private void countSigns() {
            for (int i = 0; i < count; i++) {
                travellers[i].signs = travellers[i].signsAt(line);
            }
        }

        private int mostSignsUnlooked() {
            int best = -1;
            for (int i = 0; i < count; i++) {
                if (!travellers[i].looked && (best < 0 || travellers[i].signs > travellers[best].signs)) {
                    best = i;
                }
            }
            return best;
        }

        int mostSigns() {
            int best = 0;
            int most = -1;
            for (int i = 0; i < count; i++) {
                int signs = travellers[i].signsAt(line);
                if (signs > most) {
                    best = i;
                    most = signs;
                }
            }
            return best;
        }

        boolean standsAlone(int who) {
            int signs = travellers[who].signsAt(line);
            if (count == 1) {
                return signs > 0;
            }
            for (int i = 0; i < count; i++) {
                if (i != who && travellers[i].signsAt(line) >= signs) {
                    return false;
                }
            }
            return true;
        }

        int spentOfAll() {
            int sum = 0;
            for (int i = 0; i < count; i++) {
                sum += travellers[i].spent;
            }
            return sum;
        }

        int claimedOfAll() {
            int sum = 0;
            for (int i = 0; i < count; i++) {
                sum += travellers[i].claimed;
            }
            return sum;
        }

        int caughtOfAll() {
            int sum = 0;
            for (int i = 0; i < count; i++) {
                sum += travellers[i].caught;
            }
            return sum;
        }

        int pad() {
            return claimedOfAll() - spentOfAll();
        }
    }

    /** The least sum of those that were offered, of several the first, with what it was offered for. */
    private static final class Least {
        private boolean any = false;
        int place = 0;
        int sum = 0;

        void begin() {
            any = false;
        }

        void offer(int newPlace, int newSum) {
            if (!any || newSum < sum) {
                any = true;
                place = newPlace;
                sum = newSum;
            }
        }
    }

    /** A text that was told: its key, and its code with each sign behind what it joins. */
    private static final class Text {
        final int key;
        final int parts;
        final int[] code;

        Text(int newKey, int newParts, int[] newCode) {
            key = newKey;
            parts = newParts;
            code = newCode;
        }
    }

    /** The texts by number. An image needs no row of its own: what it counts is never written over. */
    private static final class Laws {
        final Text[] texts = new Text[MOST_TEXTS];
        private final int[] stack = new int[MOST_BYTES];

        /** What a text gives for its names' values; what is given without one, if there is none. */
        int gives(int number, int first, int second, int third, int without) {
            if (!within(number, 0, MOST_TEXTS - 1) || texts[number] == null) {
                return without;
            }
            int[] code = texts[number].code;
            int top = 0;
            for (int i = 0; i < code.length && i < MOST_BYTES; i++) {
                int one = code[i];
                if (one == SIGNS_OF + '!' && top >= 1) {
                    stack[top - 1] = stack[top - 1] == 0 ? 1 : 0;
                } else if (one >= SIGNS_OF && top >= 2) {
                    stack[top - 2] = joined(one - SIGNS_OF, stack[top - 2], stack[top - 1]);
                    top--;
                } else if (one >= NAMES) {
                    stack[top] = one == NAMES ? first : one == NAMES + 1 ? second : third;
                    top++;
                } else {
                    stack[top] = one;
                    top++;
                }
            }
            return stack[0];
        }

        private static int joined(int sign, int a, int b) {
            switch (sign) {
                case '+': return a + b;
                case '-': return a - b;
                case '*': return a * b;
                case '/': return b == 0 ? 0 : a / b;
                case '<': return a < b ? 1 : 0;
                case '=': return a == b ? 1 : 0;
                case '>': return a > b ? 1 : 0;
                case '&': return a != 0 && b != 0 ? 1 : 0;
                default: return a != 0 || b != 0 ? 1 : 0;
            }
        }
    }

    /** Reads the tape as a text; where it answers false, start is the place of the fault. */
    private static final class Reader {
        private static final int END = 0, LETTERS = 1, DIGITS = 2, SIGN = 3;

        private final int[] tape;
        private final int[] code = new int[MOST_BYTES];
        private int codeLength;
        private int parts;
        private int length;
        /** The word or sign that is read now: its first byte, the place behind it, what it is. */
        int start;
        private int end;
        private int sort;
        int key;

        Reader(int[] newTape) {
            tape = newTape;
        }

        boolean isText(int newLength) {
            length = newLength;
            codeLength = 0;
            parts = 0;
            end = 0;
            sort = END;
            step();
            key = keyHere();
            if (key < 0) {
                return false;
            }
            step();
            return readOr(0, 0) && sort == END;
        }

        Text made() {
            int[] own = new int[codeLength];
            System.arraycopy(code, 0, own, 0, codeLength);
            return new Text(key, parts, own);
        }

        private void step() {
            start = end;
            while (start < length && tape[start] == BLANK) {
                start++;
            }
            end = start;
            sort = sortAt(start);
            if (sort == SIGN) {
                end = start + 1;
            } else if (sort != END) {
                while (end < length && sortAt(end) == sort) {
                    end++;
                }
            }
        }

        private int sortAt(int place) {
            if (place >= length) {
                return END;
            }
            int one = tape[place];
            if (one >= 'a' && one <= 'z') {
                return LETTERS;
            }
            return one >= '0' && one <= '9' ? DIGITS : SIGN;
        }

        private int keyHere() {
            if (sort != LETTERS) {
                return -1;
            }
            return isWord("cost") ? COST : isWord("fee") ? FEE : isWord("fine") ? FINE : -1;
        }

        private boolean isWord(String word) {
            if (end - start != word.length()) {
                return false;
            }
            for (int i = 0; i < word.length(); i++) {
                if (tape[start + i] != word.charAt(i)) {
                    return false;
                }
            }
            return true;
        }

        private boolean isSign(int sign) {
            return sort == SIGN && tape[start] == sign;
        }

        private void put(int one) {
            if (codeLength < MOST_BYTES) {
                code[codeLength] = one;
                codeLength++;
            }
        }

        private boolean readOr(int opened, int nots) {
            boolean well = readAnd(opened, nots);
            for (int i = 0; i < MOST_BYTES && well && isSign('|'); i++) {
                step();
                well = readAnd(opened, nots);
                put(SIGNS_OF + '|');
            }
            return well;
        }

        private boolean readAnd(int opened, int nots) {
            boolean well = readTest(opened, nots);
            for (int i = 0; i < MOST_BYTES && well && isSign('&'); i++) {
                step();
                well = readTest(opened, nots);
                put(SIGNS_OF + '&');
            }
            return well;
        }

        private boolean readTest(int opened, int nots) {
            boolean well = readSum(opened, nots);
            if (well && (isSign('<') || isSign('=') || isSign('>'))) {
                int sign = tape[start];
                step();
                well = readSum(opened, nots);
                put(SIGNS_OF + sign);
            }
            return well;
        }

        private boolean readSum(int opened, int nots) {
            boolean well = readTerm(opened, nots);
            for (int i = 0; i < MOST_BYTES && well && (isSign('+') || isSign('-')); i++) {
                int sign = tape[start];
                step();
                well = readTerm(opened, nots);
                put(SIGNS_OF + sign);
            }
            return well;
        }

        private boolean readTerm(int opened, int nots) {
            boolean well = readPiece(opened, nots);
            for (int i = 0; i < MOST_BYTES && well && (isSign('*') || isSign('/')); i++) {
                int sign = tape[start];
                step();
                well = readPiece(opened, nots);
                put(SIGNS_OF + sign);
            }
            return well;
        }

        private boolean readPiece(int opened, int nots) {
            if (isSign('!') && nots < MOST_OPEN) {
                step();
                boolean well = readPiece(opened, nots + 1);
                put(SIGNS_OF + '!');
                return well;
            }
            if (isSign('(') && opened < MOST_OPEN) {
                step();
                if (!readOr(opened + 1, nots) || !isSign(')')) {
                    return false;
                }
                step();
                return true;
            }
            return readPart();
        }

        private boolean readPart() {
            if (needsBlank()) {
                return false;
            }
            int part = sort == DIGITS ? numberHere() : sort == LETTERS ? nameHere() : -1;
            if (part < 0) {
                return false;
            }
            put(part);
            parts++;
            step();
            return true;
        }

        /** Letters and digits side by side are two words without a blank between them. */
        private boolean needsBlank() {
            return start > 0 && sortAt(start - 1) != SIGN && sort != SIGN;
        }

        private int numberHere() {
            if (end - start > MOST_DIGITS) {
                return -1;
            }
            int number = 0;
            for (int i = start; i < end; i++) {
                number = number * 10 + tape[i] - '0';
            }
            return number;
        }

        private int nameHere() {
            String names = key == COST ? "nxd" : key == FEE ? "pl" : "sc";
            int at = end - start == 1 ? names.indexOf((char) tape[start]) : -1;
            return at < 0 ? -1 : NAMES + at;
        }
    }

    /** A sheet: a row of places; NONE stands where there is no number. */
    private static final class Row {
        int sort = MISSING;
        int size = 0;
        final int[] places = new int[MOST_PLACES];

        void begin(int newSort, int newSize) {
            sort = newSort;
            size = newSize;
            for (int i = 0; i < MOST_PLACES; i++) {
                places[i] = 0;
            }
        }

        void become(Row other) {
            sort = other.sort;
            size = other.size;
            System.arraycopy(other.places, 0, places, 0, MOST_PLACES);
        }

        boolean isNumber(int place) {
            return places[place] != NONE;
        }

        boolean hasPlaces(int from, int many) {
            return within(many, 0, size) && within(from, 0, size - many);
        }
    }

    /** A slot holds one thing, always as it was when it was laid. */
    private static final class Slot {
        int thing = HOLDS_NOTHING;
        int number = 0;
        final Traveller traveller = new Traveller();
        final Row row = new Row();

        /** The finding for one who wants another thing than it holds. */
        int otherThan() {
            return thing == HOLDS_NOTHING ? NOTHING : KIND;
        }
    }
}
