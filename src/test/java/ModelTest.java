import java.util.ArrayDeque;
import java.util.ArrayList;
import java.util.Arrays;
import java.util.Deque;
import java.util.List;
import java.util.Random;
import java.util.function.ToIntFunction;

/** Plays runs of calls by lot against a model of the document that is written in another way. */
public final class ModelTest {
    private static final int BAD = -1000000001, NO = -1000000002, FULL = -1000000003, NONE = -1000000005;
    private static final int NOTHING = -1000000011, KIND = -1000000012, INDEX = -1000000013, SIZE = -1000000014;
    private static final int RUNS = 400, CALLS = 512;

    // ---- kinds under one another, as classes

    private static class Plain {
        int number() {
            return 0;
        }

        int asks(Person p, int c, int line) {
            return c;
        }

        int worth(Person p) {
            return p.need;
        }
    }

    private static class Rounder extends Plain {
        @Override int number() {
            return 1;
        }

        int step() {
            return 5;
        }

        @Override int asks(Person p, int c, int line) {
            int a = c;
            while (a % step() != 0) {
                a++;
            }
            return a;
        }

        @Override int worth(Person p) {
            return super.worth(p) + 5;
        }
    }

    private static final class Tenner extends Rounder {
        @Override int number() {
            return 3;
        }

        @Override int step() {
            return 10;
        }

        @Override int worth(Person p) {
            return super.worth(p) * 2;
        }
    }

    private static class Padder extends Plain {
        @Override int number() {
            return 2;
        }

        int more(Person p) {
            return p.bent;
        }

        @Override int asks(Person p, int c, int line) {
            int a = c + more(p);
            if (a >= line && c < line) {
                a = line - 1;
            }
            return a;
        }

        @Override int worth(Person p) {
            return 99 - p.bent;
        }
    }

    private static final class Climber extends Padder {
        @Override int number() {
            return 4;
        }

        @Override int more(Person p) {
            int more = p.bent;
            for (int day = 1; day <= p.since && day <= 20; day++) {
                more += 2;
            }
            return more;
        }

        @Override int worth(Person p) {
            return super.worth(p) - 9;
        }
    }

    private static final class Ghost extends Plain {
        @Override int number() {
            return 5;
        }

        @Override int asks(Person p, int c, int line) {
            return c < line - 1 ? line - 1 : c;
        }

        @Override int worth(Person p) {
            return 1;
        }
    }

    private static final Plain[] KINDS = {new Plain(), new Rounder(), new Padder(), new Tenner(), new Climber(), new Ghost()};

    private static final class Person {
        Plain kind;
        int need;
        int bent;
        int spent;
        int claimed;
        int caught;
        int since;
        List<Integer> claims = new ArrayList<>(List.of(0, 0, 0, 0, 0, 0));

        Person(int kind, int need, int bent) {
            this.kind = KINDS[kind];
            this.need = need;
            this.bent = bent;
        }

        Person twin() {
            Person p = new Person(kind.number(), need, bent);
            p.spent = spent;
            p.claimed = claimed;
            p.caught = caught;
            p.since = since;
            p.claims = new ArrayList<>(claims);
            return p;
        }

        int signs(int line) {
            int sum = 0;
            for (int i = 0; i < 6; i++) {
                int a = claims.get(i);
                if (a <= 0) {
                    continue;
                }
                String digits = Integer.toString(a);
                if (digits.endsWith("0")) {
                    sum += 2;
                }
                if (digits.endsWith("5")) {
                    sum += 1;
                }
                if (a + 1 == line) {
                    sum += 4;
                }
                if (i != 5 && claims.get(i + 1) == a) {
                    sum += 3;
                }
            }
            return sum;
        }
    }

    // ---- texts: a fault by a machine of two states, values by cutting at the loosest sign

    private record Token(int place, String text, boolean glued) {
        boolean isNumber() {
            return Character.isDigit(text.charAt(0));
        }

        boolean isWord() {
            return text.charAt(0) >= 'a' && text.charAt(0) <= 'z';
        }
    }

    private static final class Law {
        int key = -1;
        int parts;
        int fault = -1;
        final List<Token> tokens = new ArrayList<>();

        Law(String s) {
            cut(s);
            fault = findFault(s.length());
        }

        private void cut(String s) {
            int i = 0;
            while (i < s.length()) {
                if (s.charAt(i) == ' ') {
                    i++;
                    continue;
                }
                int j = i + 1;
                if (sort(s.charAt(i)) != 0) {
                    while (j < s.length() && sort(s.charAt(j)) == sort(s.charAt(i))) {
                        j++;
                    }
                }
                boolean glued = sort(s.charAt(i)) != 0 && i > 0 && sort(s.charAt(i - 1)) != 0;
                tokens.add(new Token(i, s.substring(i, j), glued));
                i = j;
            }
        }

        private static int sort(char c) {
            return c >= 'a' && c <= 'z' ? 1 : c >= '0' && c <= '9' ? 2 : 0;
        }

        private int findFault(int end) {
            if (tokens.isEmpty()) {
                return end;
            }
            key = List.of("cost", "fee", "fine").indexOf(tokens.get(0).text);
            if (key < 0) {
                return tokens.get(0).place;
            }
            // open things: '(' and '!' as they came; a '!' goes when its piece is whole
            Deque<Character> open = new ArrayDeque<>();
            // for each level of brackets: was there a test since the last & or |
            Deque<Boolean> tested = new ArrayDeque<>();
            tested.push(false);
            boolean wantsPiece = true;
            for (Token t : tokens.subList(1, tokens.size())) {
                if (t.glued) {
                    return t.place;
                }
                if (wantsPiece) {
                    if (t.text.equals("(") || t.text.equals("!")) {
                        char c = t.text.charAt(0);
                        if (open.stream().filter(o -> o == c).count() == 8) {
                            return t.place;
                        }
                        open.push(c);
                        if (c == '(') {
                            tested.push(false);
                        }
                    } else if (isPart(t)) {
                        parts++;
                        wantsPiece = false;
                        closeNots(open);
                    } else {
                        return t.place;
                    }
                } else if (t.text.equals(")") && !open.isEmpty()) {
                    open.pop();
                    tested.pop();
                    closeNots(open);
                } else if ("+-*/".contains(t.text)) {
                    wantsPiece = true;
                } else if ("<=>".contains(t.text) && t.text.length() == 1 && !tested.peek()) {
                    tested.pop();
                    tested.push(true);
                    wantsPiece = true;
                } else if ("&|".contains(t.text) && t.text.length() == 1) {
                    tested.pop();
                    tested.push(false);
                    wantsPiece = true;
                } else {
                    return t.place;
                }
            }
            return wantsPiece || !open.isEmpty() ? end : -1;
        }

        private static void closeNots(Deque<Character> open) {
            while (!open.isEmpty() && open.peek() == '!') {
                open.pop();
            }
        }

        private boolean isPart(Token t) {
            if (t.isNumber()) {
                return t.text.length() <= 4;
            }
            return t.text.length() == 1 && names().indexOf(t.text.charAt(0)) >= 0;
        }

        private String names() {
            return new String[] {"nxd", "pl", "sc"}[key];
        }

        int value(int... values) {
            return value(1, tokens.size(), values);
        }

        private int value(int lo, int hi, int[] values) {
            for (String loosest : new String[] {"|", "&", "<=>", "+-", "*/"}) {
                int depth = 0;
                for (int i = hi - 1; i > lo; i--) {
                    String t = tokens.get(i).text;
                    depth += t.equals(")") ? 1 : t.equals("(") ? -1 : 0;
                    if (depth == 0 && loosest.contains(t)) {
                        return join(t.charAt(0), value(lo, i, values), value(i + 1, hi, values));
                    }
                }
            }
            Token first = tokens.get(lo);
            if (first.text.equals("!")) {
                return value(lo + 1, hi, values) == 0 ? 1 : 0;
            }
            if (first.text.equals("(")) {
                return value(lo + 1, hi - 1, values);
            }
            return first.isNumber() ? Integer.parseInt(first.text) : values[names().indexOf(first.text)];
        }

        private static int join(char sign, int a, int b) {
            boolean holds;
            switch (sign) {
                case '+': return a + b;
                case '-': return a - b;
                case '*': return a * b;
                case '/': return b == 0 ? 0 : (int) ((long) a / b);
                case '<': holds = a < b; break;
                case '=': holds = a == b; break;
                case '>': holds = a > b; break;
                case '&': holds = a != 0 & b != 0; break;
                default: holds = a != 0 | b != 0;
            }
            return holds ? 1 : 0;
        }
    }

    // ---- the state that an image keeps

    private static final class State {
        List<Person> people = new ArrayList<>();
        List<Law> laws = new ArrayList<>();
        int line = 50;
        int looks = 1;
        int mode;
        int day;
        int z = 1;

        State twin() {
            State s = new State();
            for (Person p : people) {
                s.people.add(p.twin());
            }
            s.laws.addAll(laws);
            s.line = line;
            s.looks = looks;
            s.mode = mode;
            s.day = day;
            s.z = z;
            return s;
        }

        int draw() {
            z = (int) ((long) z * 1103515245L + 12345L);
            return z >>> 8;
        }

        int why(int key) {
            int found = NONE;
            for (int i = 0; i < laws.size(); i++) {
                if (laws.get(i).key == key) {
                    found = i;
                }
            }
            return found;
        }

        int cost(Person p, int x) {
            int c = why(0) == NONE ? p.need + x : laws.get(why(0)).value(p.need, x, day);
            return c < 0 ? 0 : c > 999 ? 999 : c;
        }

        int sum(ToIntFunction<Person> of) {
            return people.stream().mapToInt(of).sum();
        }

        int pad() {
            return sum(p -> p.claimed - p.spent);
        }

        int mostSigns(List<Integer> among) {
            int best = NONE;
            for (int i : among) {
                if (best == NONE || people.get(i).signs(line) > people.get(best).signs(line)) {
                    best = i;
                }
            }
            return best;
        }

        int day(int absent) {
            int many = people.size();
            int[] over = new int[many];
            List<Integer> unseen = new ArrayList<>();
            for (int i = 0; i < many; i++) {
                int x = draw() % 20;
                if (i == absent) {
                    continue;
                }
                Person p = people.get(i);
                int c = cost(p, x);
                int a = p.kind.asks(p, c, line);
                p.spent += c;
                p.claimed += a;
                p.claims.add(0, a);
                p.claims.remove(6);
                over[i] = a - c;
                unseen.add(i);
            }
            List<Integer> caught = new ArrayList<>();
            for (int look = 0; look < looks && look < many; look++) {
                int at = mode == 0 ? draw() % many : mostSigns(unseen);
                if (unseen.remove((Integer) at) && over[at] > 0) {
                    caught.add(at);
                    Person p = people.get(at);
                    p.caught++;
                    p.claimed -= over[at];
                    p.bent = p.bent >> 1;
                }
            }
            day++;
            for (int i = 0; i < many; i++) {
                people.get(i).since = caught.contains(i) ? 0 : people.get(i).since + 1;
            }
            return caught.size();
        }

        State after(int n) {
            State s = twin();
            for (int i = 0; i < n; i++) {
                s.day(-1);
            }
            return s;
        }
    }

    // ---- the calls

    private static final class Model {
        State s = new State();
        State image;
        final Object[] slots = new Object[5];
        final Integer[][] sheets = new Integer[4][];
        final int[] sorts = new int[4];
        final List<Integer> waiting = new ArrayList<>();
        final StringBuilder tape = new StringBuilder();

        private record Sheet(Integer[] places) {
        }

        boolean one(int t) {
            return t >= 0 && t < s.people.size();
        }

        static boolean in(int v, int lo, int hi) {
            return lo <= v && v <= hi;
        }

        int traveller(int kind, int need, int bent) {
            if (!in(kind, 0, 5) || !in(need, 0, 99) || !in(bent, 0, 99)) {
                return BAD;
            }
            if (s.people.size() == 8) {
                return FULL;
            }
            s.people.add(new Person(kind, need, bent));
            return s.people.size() - 1;
        }

        int told(int t, int what) {
            if (!one(t) || !in(what, 0, 8)) {
                return BAD;
            }
            Person p = s.people.get(t);
            return new int[] {p.kind.number(), p.need, p.bent, p.spent, p.claimed, p.caught, p.since, p.signs(s.line), p.kind.worth(p)}[what];
        }

        int claim(int t, int i) {
            return !one(t) || !in(i, 0, 5) ? BAD : s.people.get(t).claims.get(i);
        }

        int costs(int t, int x) {
            return !one(t) || !in(x, 0, 19) ? BAD : s.cost(s.people.get(t), x);
        }

        int asksFor(int t, int c) {
            return !one(t) || !in(c, 0, 999) ? BAD : s.people.get(t).kind.asks(s.people.get(t), c, s.line);
        }

        int as(int t, int kind) {
            if (!one(t) || !in(kind, 0, 5)) {
                return BAD;
            }
            return KINDS[kind].getClass().isInstance(s.people.get(t).kind) ? s.people.get(t).need : KIND;
        }

        int turns(int t, int kind) {
            if (!one(t) || !in(kind, 0, 5)) {
                return BAD;
            }
            int was = s.people.get(t).kind.number();
            s.people.get(t).kind = KINDS[kind];
            return was;
        }

        int set(int t, int what, int v) {
            if (!one(t) || !in(what, 1, 2) || !in(v, 0, 99)) {
                return BAD;
            }
            int was = told(t, what);
            if (what == 1) {
                s.people.get(t).need = v;
            } else {
                s.people.get(t).bent = v;
            }
            return was;
        }

        int deal(int n) {
            if (!in(n, 1, 8)) {
                return BAD;
            }
            int came = 0;
            while (came < n && s.people.size() < 8) {
                int kind = s.draw() % 6;
                int need = s.draw() % 60;
                s.people.add(new Person(kind, need, s.draw() % 30));
                came++;
            }
            return came;
        }

        int seed(int v) {
            int was = s.z;
            s.z = v;
            return was;
        }

        int rule(int what, int v) {
            if (!in(what, 0, 2) || !in(v, what == 0 ? 1 : 0, new int[] {999, 8, 1}[what])) {
                return BAD;
            }
            int was = count(2 + what);
            if (what == 0) {
                s.line = v;
            } else if (what == 1) {
                s.looks = v;
            } else {
                s.mode = v;
            }
            return was;
        }

        int days(int n) {
            if (!in(n, 1, 100)) {
                return BAD;
            }
            int caught = 0;
            for (int i = 0; i < n && s.day < 9999; i++) {
                caught += s.day(-1);
            }
            return caught;
        }

        int coins(int what) {
            if (what == 4) {
                List<Integer> all = new ArrayList<>();
                for (int i = 0; i < s.people.size(); i++) {
                    all.add(i);
                }
                return s.mostSigns(all);
            }
            return !in(what, 0, 3) ? BAD : new int[] {s.sum(p -> p.spent), s.sum(p -> p.claimed), s.pad(), s.sum(p -> p.caught)}[what];
        }

        int behind(int n, int what) {
            if (!in(n, 0, 100) || what < 0 || what > 2 && !one(what - 3)) {
                return BAD;
            }
            State t = s.after(n);
            return what == 0 ? t.pad() : what == 1 ? t.sum(p -> p.claimed) : what == 2 ? t.sum(p -> p.caught) : t.people.get(what - 3).signs(t.line);
        }

        /** The place of the least, of several the first, or what it is. */
        static int least(int[] of, int first, int what) {
            int best = 0;
            for (int i = 1; i < of.length; i++) {
                if (of[i] < of[best]) {
                    best = i;
                }
            }
            return what == 0 ? best + first : of[best];
        }

        int bestLine(int n, int what) {
            if (!in(n, 1, 30) || !in(what, 0, 1)) {
                return BAD;
            }
            int[] pads = new int[120];
            for (int i = 0; i < 120; i++) {
                State t = s.twin();
                t.line = i + 1;
                pads[i] = t.after(n).pad();
            }
            return least(pads, 1, what);
        }

        int bestLooks(int n, int p, int what) {
            if (!in(n, 1, 60) || !in(p, 0, 999) || !in(what, 0, 1)) {
                return BAD;
            }
            int[] sums = new int[9];
            for (int i = 0; i < 9; i++) {
                State t = s.twin();
                t.looks = i;
                sums[i] = t.after(n).pad() + p * i * n;
            }
            return least(sums, 0, what);
        }

        int without(int n, int what) {
            if (!in(n, 1, 60) || !in(what, 0, 1)) {
                return BAD;
            }
            if (s.people.isEmpty()) {
                return NONE;
            }
            int[] pads = new int[s.people.size()];
            for (int i = 0; i < pads.length; i++) {
                State t = s.twin();
                for (int k = 0; k < n; k++) {
                    t.day(i);
                }
                pads[i] = t.pad();
            }
            return least(pads, 0, what);
        }

        int flat(int n) {
            if (!in(n, 1, 60)) {
                return BAD;
            }
            if (s.people.isEmpty()) {
                return NONE;
            }
            int more = s.after(n).sum(p -> p.claimed) - s.sum(p -> p.claimed);
            int sum = 0;
            while (sum * n * s.people.size() < more) {
                sum++;
            }
            return sum;
        }

        int standsOut(int t, int n) {
            if (!one(t) || !in(n, 1, 60)) {
                return BAD;
            }
            State u = s.twin();
            int often = 0;
            for (int k = 0; k < n; k++) {
                u.day(-1);
                int most = u.people.size() == 1 ? 0 : -1;
                for (Person p : u.people) {
                    if (p != u.people.get(t)) {
                        most = Math.max(most, p.signs(u.line));
                    }
                }
                often += u.people.get(t).signs(u.line) > most ? 1 : 0;
            }
            return often;
        }

        int bentBy(int sheet, int t, int what) {
            if (!in(sheet, 0, 3) || !one(t) || !in(what, 0, 1)) {
                return BAD;
            }
            if (sheets[sheet] == null) {
                return NOTHING;
            }
            int[] differences = new int[41];
            for (int b = 0; b <= 40; b++) {
                State u = s.twin();
                u.people.get(t).bent = b;
                for (Integer place : sheets[sheet]) {
                    differences[b] += place == null ? 0 : Math.abs(place - u.people.get(t).claimed);
                    u.day(-1);
                }
            }
            return least(differences, 0, what);
        }

        int fee() {
            return s.why(1) == NONE ? s.pad() : s.laws.get(s.why(1)).value(s.pad(), s.looks);
        }

        int fine(int t) {
            if (!one(t)) {
                return BAD;
            }
            int signs = s.people.get(t).signs(s.line);
            return s.why(2) == NONE ? signs : s.laws.get(s.why(2)).value(signs, s.people.get(t).caught);
        }

        int feed(int a, int b, int c) {
            if (tape.length() > 84) {
                return FULL;
            }
            for (int v : new int[] {a, b, c}) {
                for (int shift = 24; shift >= 0; shift -= 8) {
                    tape.append((char) (v >> shift & 255));
                }
            }
            return tape.length();
        }

        int trim(int n) {
            if (!in(n, 0, tape.length())) {
                return BAD;
            }
            tape.setLength(n);
            return n;
        }

        int text() {
            Law law = new Law(tape.toString());
            tape.setLength(0);
            if (law.fault >= 0) {
                return -100 - law.fault;
            }
            if (s.laws.size() == 14) {
                return FULL;
            }
            s.laws.add(law);
            return s.laws.size() - 1;
        }

        int textTold(int t, int what) {
            if (!in(t, 0, s.laws.size() - 1) || !in(what, 0, 1)) {
                return BAD;
            }
            return what == 0 ? s.laws.get(t).key : s.laws.get(t).parts;
        }

        int why(int key) {
            return !in(key, 0, 2) ? BAD : s.why(key);
        }

        int sheet(int sheet, int sort, int n) {
            if (!in(sheet, 0, 3) || !in(sort, -1, 1) || sort >= 0 && n > 24) {
                return BAD;
            }
            if (sort >= 0 && n < 0) {
                return SIZE;
            }
            sheets[sheet] = sort < 0 ? null : new Integer[n];
            sorts[sheet] = sort;
            if (sort < 0) {
                return 0;
            }
            Arrays.fill(sheets[sheet], 0);
            return n;
        }

        int mark(int sheet, int place, int v) {
            if (!in(sheet, 0, 3)) {
                return BAD;
            }
            if (sheets[sheet] == null) {
                return NOTHING;
            }
            if (!in(place, 0, sheets[sheet].length - 1)) {
                return INDEX;
            }
            if (sorts[sheet] == 0 && v == NONE) {
                return KIND;
            }
            if (sorts[sheet] == 1 && v != NONE && !in(v, -99999, 99999)) {
                return BAD;
            }
            sheets[sheet][place] = sorts[sheet] == 0 ? (Integer) (v << 16 >> 16) : v == NONE ? null : (Integer) v;
            return 1;
        }

        int pour(int sheet) {
            if (!in(sheet, 0, 3)) {
                return BAD;
            }
            if (sheets[sheet] == null) {
                return NOTHING;
            }
            int otherwise = 0;
            for (int i = 0; i < s.people.size(); i++) {
                Integer v = i < sheets[sheet].length ? sheets[sheet][i] : null;
                if (v != null) {
                    int need = v < 0 ? 0 : v > 99 ? 99 : v;
                    otherwise += s.people.get(i).need == need ? 0 : 1;
                    s.people.get(i).need = need;
                }
            }
            return otherwise;
        }

        int reads(int sheet) {
            if (!in(sheet, 0, 3)) {
                return BAD;
            }
            if (sheets[sheet] == null) {
                return NOTHING;
            }
            for (int i = 0; i < sheets[sheet].length; i++) {
                Integer v = sheets[sheet][i];
                if (v != null && !(one(i) && s.people.get(i).claims.get(0).equals(v))) {
                    return i;
                }
            }
            return NONE;
        }

        int copy(int from, int place, int to, int at, int many) {
            if (!in(from, 0, 3) || !in(to, 0, 3)) {
                return BAD;
            }
            if (sheets[from] == null || sheets[to] == null) {
                return NOTHING;
            }
            if (sorts[from] != sorts[to]) {
                return KIND;
            }
            if (place < 0 || at < 0 || many < 0 || (long) place + many > sheets[from].length || (long) at + many > sheets[to].length) {
                return INDEX;
            }
            Integer[] were = Arrays.copyOfRange(sheets[from], place, place + many);
            for (int i = 0; i < many; i++) {
                sheets[to][at + i] = were[i];
            }
            return many;
        }

        private int holds(int slot) {
            Object o = slots[slot];
            return o == null ? 0 : o instanceof Person ? 1 : o instanceof Sheet ? 2 : 3;
        }

        int lay(int slot, int thing, int k) {
            if (!in(slot, 0, 4) || !in(thing, 0, 3) || thing == 1 && !one(k) || thing == 2 && !in(k, 0, 3)) {
                return BAD;
            }
            if (thing == 2 && sheets[k] == null) {
                return NOTHING;
            }
            int was = holds(slot);
            slots[slot] = thing == 0 ? null : thing == 1 ? s.people.get(k).twin() : thing == 2 ? new Sheet(sheets[k].clone()) : (Object) k;
            return was;
        }

        int ask(int slot, int kind) {
            if (!in(slot, 0, 4) || !in(kind, 0, 5)) {
                return BAD;
            }
            if (holds(slot) == 0) {
                return NOTHING;
            }
            if (slots[slot] instanceof Person p && KINDS[kind].getClass().isInstance(p.kind)) {
                return p.kind.worth(p);
            }
            return KIND;
        }

        int item(int slot, int place) {
            if (!in(slot, 0, 4)) {
                return BAD;
            }
            if (holds(slot) == 0) {
                return NOTHING;
            }
            if (!(slots[slot] instanceof Sheet row)) {
                return KIND;
            }
            if (!in(place, 0, row.places.length - 1)) {
                return INDEX;
            }
            return row.places[place] == null ? KIND : row.places[place];
        }

        int rest(int slot, int n) {
            if (!in(slot, 0, 4)) {
                return BAD;
            }
            if (holds(slot) == 0) {
                return NOTHING;
            }
            if (!(slots[slot] instanceof Integer k)) {
                return KIND;
            }
            return n == 0 ? NO : (int) ((long) k % n);
        }

        int tell(int v) {
            if (waiting.size() == 60) {
                return FULL;
            }
            waiting.add(v);
            return waiting.size();
        }

        int check(int n) {
            List<Integer> were = new ArrayList<>(waiting);
            waiting.clear();
            if (!in(n, 1, 30)) {
                return BAD;
            }
            if (image == null) {
                return NO;
            }
            List<Integer> due = new ArrayList<>();
            State t = image.twin();
            for (int i = 0; i < n && t.day < 9999; i++) {
                t.day(-1);
                due.add(t.sum(p -> p.claimed));
                due.add(t.pad());
            }
            if (due.equals(were)) {
                return 0;
            }
            int same = 0;
            while (same < due.size() && same < were.size() && due.get(same).equals(were.get(same))) {
                same++;
            }
            return 1 + same;
        }

        int keep() {
            image = s.twin();
            return s.people.size();
        }

        int back() {
            if (image == null) {
                return NO;
            }
            s = image.twin();
            return s.people.size();
        }

        int count(int what) {
            if (!in(what, 0, 8)) {
                return BAD;
            }
            return new int[] {s.people.size(), s.day, s.line, s.looks, s.mode, s.laws.size(), waiting.size(), tape.length(), s.z}[what];
        }
    }

    // ---- the runs

    private static final class Run {
        final Random lot;
        final int number;
        final RoundFigures x = new RoundFigures();
        final Model m = new Model();
        int calls;
        boolean right = true;

        Run(int number) {
            this.number = number;
            this.lot = new Random(number);
        }

        void same(String call, int got, int want) {
            calls++;
            // what later calls answer is free
            if (got != want && right && calls <= CALLS) {
                right = false;
                System.out.println("run " + number + ", call " + calls + ": " + call + " answered " + got + ", due is " + want);
            }
        }

        /** Mostly within, now and then just or far outside. */
        int pick(int lo, int hi) {
            int chance = lot.nextInt(40);
            if (chance == 0) {
                return lo - 1;
            }
            if (chance == 1) {
                return hi + 1;
            }
            if (chance == 2) {
                return new int[] {Integer.MIN_VALUE, Integer.MAX_VALUE, NONE, -1, 0, lot.nextInt()}[lot.nextInt(6)];
            }
            return chance < 8 ? (lot.nextBoolean() ? lo : hi) : lo + lot.nextInt(hi - lo + 1);
        }

        int someone() {
            return pick(0, Math.max(0, m.s.people.size() - 1));
        }

        void play() {
            if (number == 0) {
                allAreBest();
            }
            if (number % 7 == 3) {
                toTheEnd();
            }
            while (calls < CALLS && right) {
                int chance = lot.nextInt(6);
                if (chance == 0) {
                    travellers();
                } else if (chance == 1) {
                    passing();
                } else if (chance == 2) {
                    thinking();
                } else if (chance == 3) {
                    telling();
                } else if (chance == 4) {
                    sheets();
                } else {
                    images();
                }
            }
        }

        /** A rare state (the lot seldom meets one): with all there less is padded than without any one of them. */
        void allAreBest() {
            same("seed", x.seed(187578), m.seed(187578));
            same("deal", x.deal(4), m.deal(4));
            same("rule", x.rule(2, 1), m.rule(2, 1));
            same("rule", x.rule(1, 2), m.rule(1, 2));
            int allThere = x.behind(22, 0);
            same("behind(22, 0)", allThere, m.behind(22, 0));
            int oneAway = x.without(22, 1);
            same("behind(22, 0) is less than without(22, 1)", allThere < oneAway ? 1 : 0, 1);
            same("without(22, 0)", x.without(22, 0), m.without(22, 0));
            same("without(22, 1)", x.without(22, 1), m.without(22, 1));
        }

        void toTheEnd() {
            for (int i = 0; i < 99; i++) {
                same("days(100)", x.days(100), m.days(100));
            }
            int n = 80 + lot.nextInt(20);
            same("days", x.days(n), m.days(n));
        }

        void travellers() {
            int a = someone();
            int b;
            int c;
            switch (lot.nextInt(12)) {
                case 0: a = pick(0, 5); b = pick(0, 99); c = pick(0, 99); same("traveller", x.traveller(a, b, c), m.traveller(a, b, c)); break;
                case 1: b = pick(0, 8); same("told(" + a + ", " + b + ")", x.told(a, b), m.told(a, b)); break;
                case 2: b = pick(0, 5); same("claim", x.claim(a, b), m.claim(a, b)); break;
                case 3: b = pick(0, 19); same("costs", x.costs(a, b), m.costs(a, b)); break;
                case 4: b = pick(0, lot.nextBoolean() ? 999 : 99); same("asksFor", x.asksFor(a, b), m.asksFor(a, b)); break;
                case 5: b = pick(0, 5); same("as", x.as(a, b), m.as(a, b)); break;
                case 6: b = pick(0, 5); same("turns", x.turns(a, b), m.turns(a, b)); break;
                case 7: b = pick(1, 2); c = pick(0, 99); same("set", x.set(a, b, c), m.set(a, b, c)); break;
                case 8: a = pick(1, 3); same("deal", x.deal(a), m.deal(a)); break;
                case 9: a = lot.nextInt(); same("seed", x.seed(a), m.seed(a)); break;
                default: everything();
            }
        }

        void everything() {
            for (int i = 0; i < m.s.people.size() && calls < CALLS - 20; i++) {
                for (int what = 1; what < 8; what++) {
                    same("told(" + i + ", " + what + ")", x.told(i, what), m.told(i, what));
                }
            }
        }

        void passing() {
            int a;
            int b;
            switch (lot.nextInt(5)) {
                case 0: a = pick(0, 2); b = pick(a == 0 ? 1 : 0, a == 0 ? lot.nextBoolean() ? 999 : 120 : a == 1 ? 8 : 1); same("rule(" + a + ", " + b + ")", x.rule(a, b), m.rule(a, b)); break;
                case 1: a = pick(1, 100); same("days(" + a + ")", x.days(a), m.days(a)); break;
                case 2: a = pick(1, 4); same("days(" + a + ")", x.days(a), m.days(a)); break;
                case 3: a = pick(0, 4); same("coins(" + a + ")", x.coins(a), m.coins(a)); break;
                default: a = pick(0, 8); same("count(" + a + ")", x.count(a), m.count(a));
            }
        }

        void thinking() {
            int a = pick(1, 60);
            int b = pick(0, 1);
            int c;
            switch (lot.nextInt(10)) {
                case 0: a = pick(0, 100); b = pick(0, 10); same("behind(" + a + ", " + b + ")", x.behind(a, b), m.behind(a, b)); break;
                case 1: a = lot.nextInt(4) > 0 ? pick(1, 5) : pick(1, 30); same("bestLine(" + a + ", " + b + ")", x.bestLine(a, b), m.bestLine(a, b)); break;
                case 2: c = lot.nextBoolean() ? pick(0, 9) : pick(0, 999); same("bestLooks", x.bestLooks(a, c, b), m.bestLooks(a, c, b)); break;
                case 3: same("without(" + a + ", " + b + ")", x.without(a, b), m.without(a, b)); break;
                case 4: same("flat(" + a + ")", x.flat(a), m.flat(a)); break;
                case 5: c = someone(); same("standsOut(" + c + ", " + a + ")", x.standsOut(c, a), m.standsOut(c, a)); break;
                case 6: a = pick(0, 3); c = someone(); same("bentBy", x.bentBy(a, c, b), m.bentBy(a, c, b)); break;
                case 7: same("fee", x.fee(), m.fee()); break;
                case 8: c = someone(); same("fine", x.fine(c), m.fine(c)); break;
                default: claimsToSheet();
            }
        }

        /** A sheet that some bent fits well. */
        void claimsToSheet() {
            int who = someone();
            int sheet = lot.nextInt(4);
            int n = 1 + lot.nextInt(8);
            same("sheet", x.sheet(sheet, 1, n), m.sheet(sheet, 1, n));
            if (m.one(who)) {
                State t = m.s.twin();
                t.people.get(who).bent = lot.nextInt(41);
                for (int k = 0; k < n; k++) {
                    int v = lot.nextInt(9) == 0 ? NONE : t.people.get(who).claimed + (lot.nextInt(5) == 0 ? 1 : 0);
                    same("mark", x.mark(sheet, k, v), m.mark(sheet, k, v));
                    t.day(-1);
                }
            }
            same("bentBy 0", x.bentBy(sheet, who, 0), m.bentBy(sheet, who, 0));
            same("bentBy 1", x.bentBy(sheet, who, 1), m.bentBy(sheet, who, 1));
        }

        String expression(int key, int depth) {
            int chance = lot.nextInt(depth > 5 ? 2 : 9);
            String blank = lot.nextInt(5) == 0 ? " " : "";
            if (chance == 0) {
                return Integer.toString(lot.nextInt(lot.nextBoolean() ? 10 : 10000));
            }
            if (chance == 1) {
                String names = new String[] {"nxd", "pl", "sc"}[key];
                return String.valueOf(names.charAt(lot.nextInt(names.length())));
            }
            if (chance == 2) {
                return "!" + blank + expression(key, depth + 1);
            }
            if (chance == 3) {
                return "(" + expression(key, depth + 1) + blank + ")";
            }
            return expression(key, depth + 1) + blank + "+-*/<=>&|+-*".charAt(lot.nextInt(12)) + blank + expression(key, depth + 1);
        }

        String textByLot() {
            int chance = lot.nextInt(20);
            if (chance == 0) {
                return "cost " + "(".repeat(lot.nextInt(11)) + "!".repeat(lot.nextInt(11)) + "n" + ")".repeat(lot.nextInt(11));
            }
            if (chance == 1) {
                StringBuilder b = new StringBuilder("fine ");
                for (int i = 0; i < 10; i++) {
                    b.append(new String[] {"!(", "!", "(", "!!"}[lot.nextInt(4)]);
                }
                return b + "s" + ")".repeat(lot.nextInt(11));
            }
            int key = lot.nextInt(3);
            StringBuilder b = new StringBuilder(new String[] {"cost ", "fee ", "fine "}[key] + expression(key, lot.nextInt(4)));
            for (int i = lot.nextInt(3) == 0 ? lot.nextInt(3) : 0; i > 0 && b.length() > 0; i--) {
                int at = lot.nextInt(b.length());
                if (lot.nextBoolean()) {
                    b.deleteCharAt(at);
                } else {
                    b.insert(at, " nxdplsc0159!()+<&|".charAt(lot.nextInt(19)));
                }
            }
            return b.toString();
        }

        void telling() {
            int chance = lot.nextInt(8);
            if (chance == 0) {
                int a = lot.nextInt();
                same("feed", x.feed(a, -a, 7 * a), m.feed(a, -a, 7 * a));
            } else if (chance == 1) {
                int a = pick(0, 96);
                same("trim", x.trim(a), m.trim(a));
            } else if (chance == 2) {
                int a = pick(0, Math.max(0, m.s.laws.size() - 1));
                int b = pick(0, 1);
                same("textTold", x.textTold(a, b), m.textTold(a, b));
            } else if (chance == 3) {
                int a = pick(0, 2);
                same("why", x.why(a), m.why(a));
            } else {
                String s = textByLot();
                same("trim", x.trim(0), m.trim(0));
                for (int i = 0; i < s.length(); i += 12) {
                    int a = four(s, i);
                    int b = four(s, i + 4);
                    int c = four(s, i + 8);
                    same("feed", x.feed(a, b, c), m.feed(a, b, c));
                }
                same("trim", x.trim(s.length()), m.trim(s.length()));
                same("text '" + s + "'", x.text(), m.text());
                same("fee behind '" + s + "'", x.fee(), m.fee());
                for (int i = 0; i < m.s.people.size(); i += 3) {
                    same("fine behind '" + s + "'", x.fine(i), m.fine(i));
                    int z = lot.nextInt(20);
                    same("costs behind '" + s + "'", x.costs(i, z), m.costs(i, z));
                }
            }
        }

        static int four(String s, int at) {
            int v = 0;
            for (int i = at; i < at + 4; i++) {
                v = v << 8 | (i < s.length() ? s.charAt(i) : ' ');
            }
            return v;
        }

        void sheets() {
            int a = pick(0, 3);
            int slot = pick(0, 4);
            int b;
            int c;
            switch (lot.nextInt(11)) {
                case 0: b = pick(-1, 1); c = pick(0, 24); same("sheet", x.sheet(a, b, c), m.sheet(a, b, c)); break;
                case 1:
                case 2: b = pick(0, 9); c = lot.nextInt(5) == 0 ? NONE : pick(-100000, 100000); same("mark", x.mark(a, b, c), m.mark(a, b, c)); break;
                case 3: same("pour", x.pour(a), m.pour(a)); break;
                case 4: same("reads", x.reads(a), m.reads(a)); break;
                case 5: latestClaims(a); break;
                case 6: copies(a); break;
                case 7: b = pick(0, 3); c = b == 3 ? lot.nextInt() : pick(0, 3); same("lay", x.lay(slot, b, c), m.lay(slot, b, c)); break;
                case 8: b = pick(0, 5); same("ask", x.ask(slot, b), m.ask(slot, b)); break;
                case 9: b = pick(0, 23); same("item", x.item(slot, b), m.item(slot, b)); break;
                default: b = pick(-9, 9); same("rest", x.rest(slot, b), m.rest(slot, b));
            }
        }

        void latestClaims(int sheet) {
            int n = lot.nextInt(9);
            same("sheet", x.sheet(sheet, 1, n), m.sheet(sheet, 1, n));
            for (int i = 0; i < n; i++) {
                int v = m.one(i) && lot.nextInt(9) > 0 ? m.claim(i, 0) : NONE;
                same("mark", x.mark(sheet, i, v), m.mark(sheet, i, v));
            }
            same("reads", x.reads(sheet), m.reads(sheet));
        }

        void copies(int from) {
            int to = lot.nextBoolean() ? from : pick(0, 3);
            int place = pick(0, 12);
            int at = pick(0, 12);
            int many = pick(0, 12);
            same("copy", x.copy(from, place, to, at, many), m.copy(from, place, to, at, many));
            if (Model.in(to, 0, 3) && m.sheets[to] != null) {
                same("lay", x.lay(4, 2, to), m.lay(4, 2, to));
                for (int i = 0; i < m.sheets[to].length; i++) {
                    same("item", x.item(4, i), m.item(4, i));
                }
            }
        }

        void images() {
            int a;
            switch (lot.nextInt(7)) {
                case 0: a = lot.nextInt(); same("tell", x.tell(a), m.tell(a)); break;
                case 1: a = pick(1, 30); same("check", x.check(a), m.check(a)); break;
                case 2: same("keep", x.keep(), m.keep()); break;
                case 3: same("back", x.back(), m.back()); break;
                case 4: a = pick(0, 8); same("count", x.count(a), m.count(a)); break;
                default: tellsDays();
            }
        }

        void tellsDays() {
            int n = 1 + lot.nextInt(30);
            if (lot.nextBoolean()) {
                same("keep", x.keep(), m.keep());
            }
            if (m.image == null || !m.waiting.isEmpty()) {
                same("check", x.check(n), m.check(n));
                return;
            }
            State t = m.image.twin();
            for (int i = 0; i < n && t.day < 9999; i++) {
                t.day(-1);
                int claimed = t.sum(p -> p.claimed) + (lot.nextInt(60) == 0 ? 1 : 0);
                int pad = t.pad() - (lot.nextInt(60) == 0 ? 1 : 0);
                same("tell", x.tell(claimed), m.tell(claimed));
                same("tell", x.tell(pad), m.tell(pad));
            }
            if (lot.nextInt(9) == 0) {
                same("tell", x.tell(7), m.tell(7));
            }
            int asked = lot.nextInt(9) == 0 ? pick(1, 30) : n;
            same("check(" + asked + ")", x.check(asked), m.check(asked));
        }
    }

    public static void main(String[] args) {
        int runs = args.length > 0 ? Integer.parseInt(args[0]) : RUNS;
        if (runs <= RUNS) {
            Bounds.watch("ModelTest");
        }
        int wrong = 0;
        int calls = 0;
        for (int i = 0; i < runs; i++) {
            Run run = new Run(i);
            run.play();
            calls += run.calls;
            wrong += run.right ? 0 : 1;
        }
        System.out.println("ModelTest: " + runs + " runs, " + calls + " calls, " + wrong + " runs are not as due");
        if (wrong != 0) {
            System.exit(1);
        }
    }
}
