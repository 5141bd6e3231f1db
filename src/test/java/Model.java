import java.util.ArrayDeque;
import java.util.ArrayList;
import java.util.Arrays;
import java.util.Deque;
import java.util.List;
import java.util.function.IntUnaryOperator;

/** A second reading of the document, held otherwise: whole copies, lists and trees. Slow and without any care for room. */
final class Model {
    private static final int BAD = -1000000001, NO = -1000000002, FULL = -1000000003, NONE = -1000000005;
    private static final int NOTHING = -1000000011, KIND = -1000000012, INDEX = -1000000013, SIZE = -1000000014;
    private static final List<String> KEYS = List.of("duty", "bill", "fine");
    private static final List<String> NAMES = List.of("dtq", "pn", "sl");

    private record Law(int key, int leaves, Formula formula) {
    }

    private interface Formula {
        int of(int[] names);
    }

    private static final class State {
        final List<int[]> words = new ArrayList<>();
        final List<int[]> people = new ArrayList<>();
        List<Law> laws = new ArrayList<>();
        boolean[] learnt = new boolean[10];
        int patience = 6;
        int caught = 50;
        int day = 0;
        int z = 1;

        State copy() {
            State s = new State();
            words.forEach(w -> s.words.add(w.clone()));
            people.forEach(p -> s.people.add(p.clone()));
            s.laws = new ArrayList<>(laws);
            s.learnt = learnt.clone();
            s.patience = patience;
            s.caught = caught;
            s.day = day;
            s.z = z;
            return s;
        }

        int learntSet() {
            int set = 0;
            for (int i = 9; i >= 0; i--) {
                set = set * 2 + (learnt[i] ? 1 : 0);
            }
            return set;
        }

        int rest(int by) {
            z = z * 1103515245 + 12345;
            return (z >>> 8) % by;
        }

        boolean turned() {
            return Integer.bitCount(learntSet()) >= patience;
        }

        Law law(int key) {
            Law found = null;
            for (Law law : laws) {
                found = law.key() == key ? law : found;
            }
            return found;
        }

        int costs(int i) {
            int[] w = words.get(i);
            Law law = law(0);
            int word = w[2];
            if (law != null) {
                word = law.formula().of(new int[] {w[2], w[5], w[3]});
                word = word < 0 ? 0 : word > 999 ? 999 : word;
            }
            int verb = word;
            if (w[5] >= w[3] / 2) {
                verb += word;
            }
            return new int[] {word, verb, word / 2, verb + 3, word / 2 < 2 ? 0 : word / 2 - 2, 0}[w[0]];
        }

        int cross(int traveller, int set) {
            int[] p = people.get(traveller);
            int came = 0;
            for (int i = 0; i < words.size(); i++) {
                int bit = 1 << i;
                if ((set & bit) != 0 && (p[0] & bit) == 0 && comes(p, i)) {
                    came += bit;
                    p[0] += bit;
                }
            }
            return came;
        }

        private boolean comes(int[] p, int i) {
            if (turned()) {
                return true;
            }
            int[] w = words.get(i);
            if (w[0] == 2 || w[0] == 4) {
                if (rest(100) >= caught) {
                    return true;
                }
            }
            if (w[5] >= w[3]) {
                return false;
            }
            p[1] += costs(i);
            w[4]++;
            w[5]++;
            learnt[i] = true;
            return true;
        }

        void pass() {
            words.forEach(w -> w[5] = 0);
            for (int t = 0; t < people.size(); t++) {
                cross(t, rest(1024) % (1 << words.size()));
            }
            day++;
        }

        State behind(int days) {
            State s = copy();
            for (int i = 0; i < days; i++) {
                s.pass();
            }
            return s;
        }

        int paid() {
            return people.stream().mapToInt(p -> p[1]).sum();
        }

        int stamps() {
            return words.stream().mapToInt(w -> w[4]).sum();
        }

        int senses(int set) {
            int senses = 0;
            for (int i = 0; i < words.size(); i++) {
                senses |= (set >> i & 1) * words.get(i)[1];
            }
            return senses;
        }
    }

    private State now = new State();
    private State image = null;
    private final List<Integer> waiting = new ArrayList<>();
    private byte[] tape = new byte[0];
    private final float[][] sheets = new float[4][];
    private final boolean[] floats = new boolean[4];
    /** null, an int[] of a WORD, a float[] or an Integer. */
    private final Object[] slots = new Object[5];

    private boolean noWord(int word) {
        return word < 0 || word >= now.words.size();
    }

    private boolean noOne(int traveller) {
        return traveller < 0 || traveller >= now.people.size();
    }

    private boolean noSet(int set) {
        return set < 0 || set >= 1 << now.words.size();
    }

    private static boolean out(int v, int least, int most) {
        return v < least || most < v;
    }

    public int word(int kind, int senses, int duty, int quota) {
        if (out(kind, 0, 5) || out(senses, 1, 255) || out(duty, 0, 99) || out(quota, 0, 99)) {
            return BAD;
        }
        if (now.words.size() == 10) {
            return FULL;
        }
        now.words.add(new int[] {kind, senses, duty, quota, 0, 0});
        return now.words.size() - 1;
    }

    private static int worth(int[] w) {
        return new int[] {w[2], w[2] + 6, 99 - w[2], 2 * w[2] + 12, 94 - w[2], Integer.bitCount(w[1])}[w[0]];
    }

    public int told(int word, int what) {
        if (noWord(word) || out(what, 0, 8)) {
            return BAD;
        }
        int[] w = now.words.get(word);
        return what < 6 ? w[what] : what == 6 ? now.costs(word) : what == 7 ? worth(w) : now.learnt[word] ? 1 : 0;
    }

    private static boolean under(int kind, int above) {
        return List.of("0", "10", "20", "310", "420", "50").get(kind).indexOf('0' + above) >= 0;
    }

    public int as(int word, int kind) {
        if (noWord(word) || out(kind, 0, 5)) {
            return BAD;
        }
        return under(now.words.get(word)[0], kind) ? now.words.get(word)[2] : KIND;
    }

    public int turns(int word, int kind) {
        if (noWord(word) || out(kind, 0, 5)) {
            return BAD;
        }
        int was = now.words.get(word)[0];
        now.words.get(word)[0] = kind;
        return was;
    }

    public int set(int word, int what, int v) {
        if (noWord(word) || out(what, 1, 3) || out(v, what == 1 ? 1 : 0, what == 1 ? 255 : 99)) {
            return BAD;
        }
        int was = now.words.get(word)[what];
        now.words.get(word)[what] = v;
        return was;
    }

    public int traveller() {
        if (now.people.size() == 6) {
            return FULL;
        }
        now.people.add(new int[2]);
        return now.people.size() - 1;
    }

    public int travels(int traveller, int what) {
        return noOne(traveller) || out(what, 0, 1) ? BAD : now.people.get(traveller)[what];
    }

    public int gives(int traveller, int set) {
        if (noOne(traveller) || noSet(set)) {
            return BAD;
        }
        int was = now.people.get(traveller)[0];
        now.people.get(traveller)[0] = set;
        return was;
    }

    public int rule(int what, int v) {
        if (out(what, 0, 1) || out(v, 1 - what, what == 0 ? 10 : 100)) {
            return BAD;
        }
        int was = what == 0 ? now.patience : now.caught;
        now.patience = what == 0 ? v : now.patience;
        now.caught = what == 1 ? v : now.caught;
        return was;
    }

    public int deal(int n) {
        if (out(n, 1, 10)) {
            return BAD;
        }
        int came = 0;
        while (came < n && now.words.size() < 10) {
            int kind = now.rest(6);
            int senses = now.rest(255) + 1;
            int duty = now.rest(50);
            now.words.add(new int[] {kind, senses, duty, now.rest(10), 0, 0});
            came++;
        }
        return came;
    }

    public int seed(int v) {
        int was = now.z;
        now.z = v;
        return was;
    }

    public int cross(int traveller, int set) {
        return noOne(traveller) || noSet(set) ? BAD : now.cross(traveller, set);
    }

    public int man(int what) {
        return what == 0 ? now.learntSet() : what == 1 ? now.turned() ? 1 : 0 : BAD;
    }

    public int forget() {
        int had = Integer.bitCount(now.learntSet());
        now.learnt = new boolean[10];
        return had;
    }

    public int days(int n) {
        if (out(n, 1, 60)) {
            return BAD;
        }
        int before = now.stamps();
        for (int i = 0; i < n && now.day < 9999; i++) {
            now.pass();
        }
        return now.stamps() - before;
    }

    private boolean has(int set, int senses) {
        return (now.senses(set) & senses) == senses;
    }

    public int says(int traveller, int senses) {
        if (noOne(traveller) || out(senses, 0, 255)) {
            return BAD;
        }
        return has(now.people.get(traveller)[0], senses) ? 1 : 0;
    }

    /** Of all sets that have SENSES, beside some, the one that is least by an order, then as bits. */
    private int least(int within, int beside, int senses, IntUnaryOperator order) {
        int best = NONE;
        for (int set = (1 << now.words.size()) - 1; set >= 0; set--) {
            boolean fits = (set | within) == within && has(set | beside, senses);
            if (fits && (best == NONE || order.applyAsInt(set) <= order.applyAsInt(best))) {
                best = set;
            }
        }
        return best;
    }

    private int sum(int set) {
        int sum = 0;
        for (int i = 0; i < now.words.size(); i++) {
            sum += (set >> i & 1) == 1 ? now.costs(i) : 0;
        }
        return sum;
    }

    public int cheapest(int traveller, int senses, int what) {
        if (noOne(traveller) || out(senses, 0, 255) || out(what, 0, 1)) {
            return BAD;
        }
        int held = now.people.get(traveller)[0];
        int set = least(1023, 0, senses, s -> 100 * sum(s & ~held) + Integer.bitCount(s & ~held));
        return set == NONE ? NONE : what == 1 ? set : sum(set & ~held);
    }

    public int shortest(int traveller, int senses) {
        if (noOne(traveller) || out(senses, 0, 255)) {
            return BAD;
        }
        return least(now.people.get(traveller)[0], 0, senses, Integer::bitCount);
    }

    public int nearest(int traveller, int senses, int n) {
        if (noOne(traveller) || out(senses, 0, 255) || out(n, 0, 10)) {
            return BAD;
        }
        return nearest(now.people.get(traveller)[0], senses, n, 0);
    }

    private int nearest(int held, int senses, int n, int word) {
        if (n == 0 || word == now.words.size()) {
            return 0;
        }
        int without = nearest(held, senses, n, word + 1);
        if ((held >> word & 1) == 0) {
            return without;
        }
        int new1 = senses & now.words.get(word)[1];
        return Math.max(without, Integer.bitCount(new1) + nearest(held, senses & ~new1, n - 1, word + 1));
    }

    public int treaty(int senses) {
        if (out(senses, 0, 255)) {
            return BAD;
        }
        int held = now.people.stream().mapToInt(p -> p[0]).reduce(0, (a, b) -> a | b);
        return least(1023, held, senses, Integer::bitCount);
    }

    public int behind(int traveller, int n, int what) {
        if (noOne(traveller) || out(n, 0, 60) || out(what, 0, 2)) {
            return BAD;
        }
        State s = now.behind(n);
        return what == 0 ? s.paid() : what == 1 ? s.people.get(traveller)[0] : s.learntSet();
    }

    public int turnsBy() {
        State s = now.copy();
        for (int days = 0; days <= 200; days++) {
            if (s.turned()) {
                return days;
            }
            s.pass();
        }
        return NONE;
    }

    public int quota(int sheet, int word, int what) {
        if (out(sheet, 0, 3) || noWord(word) || out(what, 0, 1)) {
            return BAD;
        }
        if (sheets[sheet] == null) {
            return NOTHING;
        }
        int[] best = {Integer.MAX_VALUE, 0};
        for (int q = 20; q >= 0; q--) {
            State s = now.copy();
            s.words.get(word)[3] = q;
            int sum = 0;
            for (float place : sheets[sheet]) {
                sum += Float.isNaN(place) ? 0 : Math.abs(s.words.get(word)[4] - (int) place);
                s.pass();
            }
            best = sum <= best[0] ? new int[] {sum, q} : best;
        }
        return best[1 - what];
    }

    public int bill(int traveller) {
        if (noOne(traveller)) {
            return BAD;
        }
        int[] p = now.people.get(traveller);
        Law law = now.law(1);
        return law == null ? p[1] : law.formula().of(new int[] {p[1], Integer.bitCount(p[0])});
    }

    public int fine() {
        Law law = now.law(2);
        int s = now.stamps();
        return law == null ? s : law.formula().of(new int[] {s, Integer.bitCount(now.learntSet())});
    }

    public int feed(int a, int b, int c) {
        if (tape.length > 84) {
            return FULL;
        }
        byte[] more = Arrays.copyOf(tape, tape.length + 12);
        for (int i = 0; i < 12; i++) {
            int four = i < 4 ? a : i < 8 ? b : c;
            more[tape.length + i] = (byte) (four >>> 24 - i % 4 * 8);
        }
        tape = more;
        return tape.length;
    }

    public int trim(int n) {
        if (n < 0 || n > tape.length) {
            return BAD;
        }
        tape = Arrays.copyOf(tape, n);
        return n;
    }

    public int text() {
        Reader reader = new Reader(tape);
        tape = new byte[0];
        int fault = reader.fault();
        if (fault >= 0) {
            return -100 - fault;
        }
        if (now.laws.size() == 14) {
            return FULL;
        }
        now.laws.add(reader.law());
        return now.laws.size() - 1;
    }

    public int textTold(int text, int what) {
        if (text < 0 || text >= now.laws.size() || out(what, 0, 1)) {
            return BAD;
        }
        return what == 0 ? now.laws.get(text).key() : now.laws.get(text).leaves();
    }

    public int why(int key) {
        return out(key, 0, 2) ? BAD : now.law(key) == null ? NONE : now.laws.lastIndexOf(now.law(key));
    }

    public int sheet(int sheet, int sort, int n) {
        if (out(sheet, 0, 3) || out(sort, -1, 1) || sort >= 0 && n > 24) {
            return BAD;
        }
        if (sort >= 0 && n < 0) {
            return SIZE;
        }
        sheets[sheet] = sort < 0 ? null : new float[n];
        floats[sheet] = sort == 1;
        return sort < 0 ? 0 : n;
    }

    public int mark(int sheet, int place, int v) {
        if (out(sheet, 0, 3)) {
            return BAD;
        }
        if (sheets[sheet] == null) {
            return NOTHING;
        }
        if (place < 0 || place >= sheets[sheet].length) {
            return INDEX;
        }
        if (floats[sheet]) {
            if (v != NONE && (v > 99999 || v < -99999)) {
                return BAD;
            }
            sheets[sheet][place] = v == NONE ? Float.NaN : v;
        } else {
            if (v == NONE) {
                return KIND;
            }
            int low = v & 0xffff;
            sheets[sheet][place] = low >= 0x8000 ? low - 0x10000 : low;
        }
        return 1;
    }

    public int pour(int sheet) {
        if (out(sheet, 0, 3)) {
            return BAD;
        }
        if (sheets[sheet] == null) {
            return NOTHING;
        }
        int changed = 0;
        for (int i = 0; i < Math.min(now.words.size(), sheets[sheet].length); i++) {
            float place = sheets[sheet][i];
            if (!Float.isNaN(place)) {
                int duty = place < 0 ? 0 : place > 99 ? 99 : (int) place;
                changed += duty == now.words.get(i)[2] ? 0 : 1;
                now.words.get(i)[2] = duty;
            }
        }
        return changed;
    }

    public int reads(int sheet) {
        if (out(sheet, 0, 3)) {
            return BAD;
        }
        if (sheets[sheet] == null) {
            return NOTHING;
        }
        for (int i = 0; i < sheets[sheet].length; i++) {
            float place = sheets[sheet][i];
            if (!Float.isNaN(place) && (noWord(i) || now.words.get(i)[4] != place)) {
                return i;
            }
        }
        return NONE;
    }

    public int copy(int from, int place, int to, int at, int many) {
        if (out(from, 0, 3) || out(to, 0, 3)) {
            return BAD;
        }
        if (sheets[from] == null || sheets[to] == null) {
            return NOTHING;
        }
        if (floats[from] != floats[to]) {
            return KIND;
        }
        if (many < 0 || place < 0 || at < 0 || (long) place + many > sheets[from].length
            || (long) at + many > sheets[to].length) {
            return INDEX;
        }
        float[] was = sheets[from].clone();
        for (int i = 0; i < many; i++) {
            sheets[to][at + i] = was[place + i];
        }
        return many;
    }

    private static int thing(Object o) {
        return o == null ? 0 : o instanceof int[] ? 1 : o instanceof float[] ? 2 : 3;
    }

    public int lay(int slot, int thing, int k) {
        if (out(slot, 0, 4) || out(thing, 0, 3) || thing == 1 && noWord(k) || thing == 2 && out(k, 0, 3)) {
            return BAD;
        }
        if (thing == 2 && sheets[k] == null) {
            return NOTHING;
        }
        int was = thing(slots[slot]);
        if (thing == 0) {
            slots[slot] = null;
        } else if (thing == 1) {
            slots[slot] = now.words.get(k).clone();
        } else if (thing == 2) {
            slots[slot] = sheets[k].clone();
        } else {
            slots[slot] = k;
        }
        return was;
    }

    public int ask(int slot, int kind) {
        if (out(slot, 0, 4) || out(kind, 0, 5)) {
            return BAD;
        }
        if (slots[slot] == null) {
            return NOTHING;
        }
        return slots[slot] instanceof int[] w && under(w[0], kind) ? worth(w) : KIND;
    }

    public int item(int slot, int place) {
        if (out(slot, 0, 4)) {
            return BAD;
        }
        if (slots[slot] == null) {
            return NOTHING;
        }
        if (!(slots[slot] instanceof float[] row)) {
            return KIND;
        }
        if (place < 0 || place >= row.length) {
            return INDEX;
        }
        return Float.isNaN(row[place]) ? KIND : (int) row[place];
    }

    public int rest(int slot, int n) {
        if (out(slot, 0, 4)) {
            return BAD;
        }
        if (slots[slot] == null) {
            return NOTHING;
        }
        if (!(slots[slot] instanceof Integer number)) {
            return KIND;
        }
        return n == 0 ? NO : (int) (number.longValue() % n);
    }

    public int tell(int v) {
        if (waiting.size() == 60) {
            return FULL;
        }
        waiting.add(v);
        return waiting.size();
    }

    /** THE DAYS TOLD by THE IMAGE; null without one. */
    List<Integer> daysTold(int n) {
        if (image == null) {
            return null;
        }
        List<Integer> told = new ArrayList<>();
        State s = image.copy();
        for (int i = 0; i < n && s.day < 9999; i++) {
            s.pass();
            told.add(s.paid());
            told.add(s.stamps());
        }
        return told;
    }

    public int check(int n) {
        List<Integer> got = new ArrayList<>(waiting);
        waiting.clear();
        if (out(n, 1, 30)) {
            return BAD;
        }
        List<Integer> due = daysTold(n);
        if (due == null) {
            return NO;
        }
        if (due.equals(got)) {
            return 0;
        }
        int right = 0;
        while (right < due.size() && right < got.size() && due.get(right).equals(got.get(right))) {
            right++;
        }
        return 1 + right;
    }

    public int keep() {
        image = now.copy();
        return image.words.size();
    }

    public int back() {
        if (image == null) {
            return NO;
        }
        now = image.copy();
        return now.words.size();
    }

    public int count(int what) {
        int[] all = {now.words.size(), now.people.size(), now.day, now.patience, now.caught, now.paid(), now.stamps(),
            now.laws.size(), waiting.size(), tape.length, now.z};
        return out(what, 0, 10) ? BAD : all[what];
    }

    /** Finds the FAULT with a stack of open brackets, without recursion; the formula then by its loosest operator. */
    private static final class Reader {
        private final String text;
        private final List<String> tokens = new ArrayList<>();
        private final List<Integer> places = new ArrayList<>();

        Reader(byte[] tape) {
            StringBuilder all = new StringBuilder();
            for (byte b : tape) {
                all.append((char) (b & 255));
            }
            text = all.toString();
            int at = 0;
            while (at < text.length()) {
                String token = tokenAt(at);
                if (!token.equals(" ")) {
                    tokens.add(token);
                    places.add(at);
                }
                at += token.length();
            }
        }

        private String tokenAt(int at) {
            for (String letters : List.of("abcdefghijklmnopqrstuvwxyz", "0123456789")) {
                int end = at;
                while (end < text.length() && letters.indexOf(text.charAt(end)) >= 0) {
                    end++;
                }
                if (end > at) {
                    return text.substring(at, end);
                }
            }
            return text.substring(at, at + 1);
        }

        private static boolean isWord(String token) {
            return token.matches("[a-z]+|[0-9]+");
        }

        private boolean touches(int i) {
            return i > 0 && isWord(tokens.get(i)) && isWord(tokens.get(i - 1))
                && places.get(i - 1) + tokens.get(i - 1).length() == places.get(i);
        }

        int fault() {
            Deque<Character> open = new ArrayDeque<>();
            Deque<Boolean> tested = new ArrayDeque<>();
            tested.push(false);
            boolean wantsPiece = true;
            for (int i = 0; i < tokens.size(); i++) {
                String token = tokens.get(i);
                boolean goesOn = !touches(i);
                if (i == 0) {
                    goesOn = KEYS.contains(token);
                } else if (wantsPiece && (token.equals("!") || token.equals("("))) {
                    char sign = token.charAt(0);
                    goesOn = open.stream().filter(c -> c == sign).count() < 8;
                    open.push(sign);
                    if (sign == '(') {
                        tested.push(false);
                    }
                } else if (wantsPiece) {
                    goesOn &= token.matches("[0-9]{1,4}")
                        || token.length() == 1 && NAMES.get(KEYS.indexOf(tokens.get(0))).contains(token);
                    wantsPiece = false;
                    closeNots(open);
                } else if (token.equals(")")) {
                    goesOn = open.size() > 0 && open.peek() == '(';
                    if (goesOn) {
                        open.pop();
                        tested.pop();
                        closeNots(open);
                    }
                } else if ("<=>".contains(token)) {
                    goesOn = !tested.pop();
                    tested.push(true);
                    wantsPiece = true;
                } else {
                    goesOn &= "|&+-*/".contains(token);
                    if ("|&".contains(token)) {
                        tested.pop();
                        tested.push(false);
                    }
                    wantsPiece = true;
                }
                if (!goesOn) {
                    return places.get(i);
                }
            }
            return tokens.isEmpty() || wantsPiece || !open.isEmpty() ? text.length() : -1;
        }

        private static void closeNots(Deque<Character> open) {
            while (!open.isEmpty() && open.peek() == '!') {
                open.pop();
            }
        }

        Law law() {
            int key = KEYS.indexOf(tokens.get(0));
            int leaves = (int) tokens.stream().filter(Reader::isWord).count() - 1;
            return new Law(key, leaves, formula(NAMES.get(key), 1, tokens.size()));
        }

        private Formula formula(String names, int from, int to) {
            for (String signs : List.of("|", "&", "<=>", "+-", "*/")) {
                int split = lastOutside(signs, from, to);
                if (split >= 0) {
                    Formula left = formula(names, from, split);
                    Formula right = formula(names, split + 1, to);
                    char sign = tokens.get(split).charAt(0);
                    return v -> joined(sign, left.of(v), right.of(v));
                }
            }
            String first = tokens.get(from);
            if (first.equals("!")) {
                Formula inner = formula(names, from + 1, to);
                return v -> inner.of(v) == 0 ? 1 : 0;
            }
            if (first.equals("(")) {
                return formula(names, from + 1, to - 1);
            }
            int name = names.indexOf(first);
            return name >= 0 ? v -> v[name] : v -> Integer.parseInt(first);
        }

        private int lastOutside(String signs, int from, int to) {
            int depth = 0;
            for (int i = to - 1; i >= from; i--) {
                String token = tokens.get(i);
                depth += token.equals(")") ? 1 : token.equals("(") ? -1 : 0;
                if (depth == 0 && signs.contains(token)) {
                    return i;
                }
            }
            return -1;
        }

        private static int joined(char sign, int a, int b) {
            return switch (sign) {
                case '|' -> a != 0 ? 1 : b != 0 ? 1 : 0;
                case '&' -> a == 0 ? 0 : b == 0 ? 0 : 1;
                case '<' -> Integer.compare(b, a) > 0 ? 1 : 0;
                case '=' -> a - b == 0 ? 1 : 0;
                case '>' -> Integer.compare(a, b) > 0 ? 1 : 0;
                case '+' -> (int) ((long) a + b);
                case '-' -> (int) ((long) a - b);
                case '*' -> (int) ((long) a * b);
                default -> b == 0 ? 0 : (int) ((long) a / b);
            };
        }
    }
}
