import java.util.ArrayList;
import java.util.Arrays;
import java.util.BitSet;
import java.util.HashMap;
import java.util.LinkedHashSet;
import java.util.List;
import java.util.Map;
import java.util.NoSuchElementException;
import java.util.Set;
import java.util.TreeMap;

/** The document's words, written down as slowly and plainly as they read: what BellPlate is held against. */
final class PlainBell {
    static final int NONE = -1;

    // ---- the text -------------------------------------------------------------------------------

    static final class Fault extends RuntimeException {
        final int code;

        Fault(int kind, int place) {
            super(null, null, false, false);
            code = kind + 16 * place;
        }
    }

    record Token(String text, int place, char kind) {
    }

    interface Node {
        int value(int[] things, int whole);
    }

    static final class Told {
        final List<String> names = new ArrayList<>();
        int most = 3;
        int bar = 10;
        final List<Node> allows = new ArrayList<>();
        Node cost;
    }

    static final List<String> KEPT =
            List.of("thing", "most", "bar", "allow", "cost", "not", "and", "or", "sum", "size");

    static List<Token> tokens(String text) {
        List<Token> all = new ArrayList<>();
        int at = 0;
        while (at < text.length()) {
            char c = text.charAt(at);
            int start = at;
            if (c == ' ' || c == '\n') {
                at++;
                continue;
            }
            if (c >= 'a' && c <= 'z') {
                while (at < text.length() && text.charAt(at) >= 'a' && text.charAt(at) <= 'z') at++;
                all.add(new Token(text.substring(start, at), start, at - start > 8 ? '?' : 'w'));
            } else if (c >= '0' && c <= '9') {
                while (at < text.length() && text.charAt(at) >= '0' && text.charAt(at) <= '9') at++;
                all.add(new Token(text.substring(start, at), start, at - start > 4 ? '?' : 'n'));
            } else {
                at++;
                all.add(new Token(String.valueOf(c), start, "()<=+-*;".indexOf(c) >= 0 ? 's' : '?'));
            }
        }
        all.add(new Token("", text.length(), 'e'));
        return all;
    }

    static final class Parser {
        final List<Token> all;
        int at = 0;
        Told told = new Told();
        boolean mostTold;
        boolean barTold;

        Parser(String text) {
            all = tokens(text);
        }

        Token now() {
            return all.get(at);
        }

        boolean is(String text) {
            return (now().kind() == 'w' || now().kind() == 's') && now().text().equals(text);
        }

        Fault fault(int kind) {
            return new Fault(kind, now().place());
        }

        void eat(String text) {
            if (!is(text)) throw fault(1);
            at++;
        }

        Told parse() {
            while (now().kind() != 'e') {
                line();
            }
            long power = 1;
            for (int i = 0; i < told.names.size(); i++) power *= told.most + 1;
            if (power > 16384) throw fault(6);
            return told;
        }

        int number(int max) {
            if (now().kind() != 'n') throw fault(1);
            int n = Integer.parseInt(now().text());
            if (n < 1 || n > max) throw fault(4);
            at++;
            return n;
        }

        void line() {
            if (is("thing")) {
                if (told.names.size() == 6) throw fault(5);
                at++;
                if (now().kind() != 'w' || KEPT.contains(now().text())) throw fault(1);
                if (told.names.contains(now().text())) throw fault(3);
                told.names.add(now().text());
                at++;
            } else if (is("most")) {
                if (mostTold) throw fault(3);
                mostTold = true;
                at++;
                told.most = number(9);
            } else if (is("bar")) {
                if (barTold) throw fault(3);
                barTold = true;
                at++;
                told.bar = number(60);
            } else if (is("allow")) {
                if (told.allows.size() == 4) throw fault(5);
                at++;
                told.allows.add(e("sum", 0));
            } else if (is("cost")) {
                if (told.cost != null) throw fault(3);
                at++;
                told.cost = e("size", 0);
            } else {
                throw fault(1);
            }
            eat(";");
        }

        Node e(String whole, int in) {
            Node a = test(whole, in);
            while (is("and") || is("or")) {
                boolean and = is("and");
                at++;
                Node l = a;
                Node r = test(whole, in);
                a = (t, w) -> {
                    boolean x = l.value(t, w) != 0;
                    boolean y = r.value(t, w) != 0;
                    return (and ? x && y : x || y) ? 1 : 0;
                };
            }
            return a;
        }

        Node test(String whole, int in) {
            Node l = sum(whole, in);
            if (is("<")) {
                at++;
                Node r = sum(whole, in);
                return (t, w) -> l.value(t, w) < r.value(t, w) ? 1 : 0;
            }
            if (is("=")) {
                at++;
                Node r = sum(whole, in);
                return (t, w) -> l.value(t, w) == r.value(t, w) ? 1 : 0;
            }
            return l;
        }

        Node sum(String whole, int in) {
            Node a = product(whole, in);
            while (is("+") || is("-")) {
                boolean plus = is("+");
                at++;
                Node l = a;
                Node r = product(whole, in);
                a = (t, w) -> plus ? l.value(t, w) + r.value(t, w) : l.value(t, w) - r.value(t, w);
            }
            return a;
        }

        Node product(String whole, int in) {
            Node a = part(whole, in);
            while (is("*")) {
                at++;
                Node l = a;
                Node r = part(whole, in);
                a = (t, w) -> l.value(t, w) * r.value(t, w);
            }
            return a;
        }

        Node part(String whole, int in) {
            Token t = now();
            boolean name = t.kind() == 'w' && !KEPT.contains(t.text());
            boolean can = t.kind() == 'n' || name || is("not") || is("(") || is(whole);
            if (!can) throw fault(1);
            if (name && !told.names.contains(t.text())) throw fault(2);
            if (in >= 5) throw fault(5);
            at++;
            if (t.kind() == 'n') {
                int n = Integer.parseInt(t.text());
                return (x, w) -> n;
            }
            if (name) {
                int i = told.names.indexOf(t.text());
                return (x, w) -> x[i];
            }
            if (t.text().equals("not")) {
                Node p = part(whole, in + 1);
                return (x, w) -> p.value(x, w) == 0 ? 1 : 0;
            }
            if (t.text().equals("(")) {
                Node p = e(whole, in + 1);
                eat(")");
                return p;
            }
            return (x, w) -> w;
        }
    }

    // ---- the state ------------------------------------------------------------------------------

    record Trial(int set, boolean rang) {
    }

    record Hint(int k, int sets) {
    }

    record Mark(int trials, int hints, long time) {
    }

    private StringBuilder tape = new StringBuilder();
    private Told told = new Told();
    private List<Trial> trials = new ArrayList<>();
    private List<Hint> hints = new ArrayList<>();
    private final Mark[] marks = new Mark[4];
    private long time = 0;
    private final List<Integer> plate = new ArrayList<>();

    int n() {
        return told.names.size();
    }

    int all() {
        int p = 1;
        for (int i = 0; i < n(); i++) p *= told.most + 1;
        return p;
    }

    int sets() {
        return 1 << n();
    }

    int[] weights(int number) {
        int[] w = new int[n()];
        for (int t = 0; t < n(); t++) {
            w[t] = number % (told.most + 1);
            number /= told.most + 1;
        }
        return w;
    }

    static int weight(int[] w, int set) {
        int sum = 0;
        for (int t = 0; t < w.length; t++) if ((set >> t & 1) == 1) sum += w[t];
        return sum;
    }

    boolean rings(int[] w, int set) {
        return weight(w, set) >= told.bar;
    }

    boolean isMay(int number) {
        int[] w = weights(number);
        int sum = Arrays.stream(w).sum();
        for (Node a : told.allows) if (a.value(w, sum) == 0) return false;
        return true;
    }

    BitSet listOf(int number) {
        BitSet b = new BitSet();
        int[] w = weights(number);
        for (int s = 0; s < sets(); s++) if (rings(w, s)) b.set(s);
        return b;
    }

    List<Integer> mays() {
        List<Integer> all = new ArrayList<>();
        for (int i = 0; i < all(); i++) if (isMay(i)) all.add(i);
        return all;
    }

    boolean isLeft(int number) {
        BitSet list = listOf(number);
        for (Trial t : trials) if (list.get(t.set) != t.rang) return false;
        for (Hint h : hints) {
            int c = 0;
            for (int s = 0; s < sets(); s++) if (Integer.bitCount(s) == h.k && list.get(s)) c++;
            if (c != h.sets) return false;
        }
        return isMay(number);
    }

    private List<Integer> leftKept;

    List<Integer> lefts() {
        if (leftKept == null) {
            leftKept = new ArrayList<>();
            for (int i = 0; i < all(); i++) if (isLeft(i)) leftKept.add(i);
        }
        return leftKept;
    }

    List<BitSet> listsOf(List<Integer> numbers) {
        Set<BitSet> all = new LinkedHashSet<>();
        for (int i : numbers) all.add(listOf(i));
        return new ArrayList<>(all);
    }

    boolean isSet(int s) {
        return s >= 0 && s < sets();
    }

    boolean isThing(int t) {
        return t >= 0 && t < n();
    }

    boolean isWeights(int w) {
        return w >= 0 && w < all();
    }

    static int gcd(int a, int b) {
        return b == 0 ? a : gcd(b, a % b);
    }

    static int part(int a, int b, int what) {
        int g = gcd(a, b);
        return what == 0 ? a / g : b / g;
    }

    // ---- the face -------------------------------------------------------------------------------

    int feed(long a, long b, long c) {
        for (long x : new long[] {a, b, c}) {
            for (int i = 7; i >= 0; i--) {
                int sign = (int) (x >>> (8 * i)) & 255;
                if ((sign == 10 || sign >= 32 && sign <= 126) && tape.length() < 1000) tape.append((char) sign);
            }
        }
        return tape.length();
    }

    int tower() {
        String text = tape.toString();
        tape.setLength(0);
        try {
            told = new Parser(text).parse();
        } catch (Fault f) {
            return f.code;
        }
        trials.clear();
        hints.clear();
        Arrays.fill(marks, null);
        plate.clear();
        leftKept = null;
        return 0;
    }

    int may(int w) {
        return !isWeights(w) ? NONE : isMay(w) ? 1 : 0;
    }

    long list(int w) {
        if (!isWeights(w)) return 0;
        long l = 0;
        BitSet b = listOf(w);
        for (int s = 0; s < 64; s++) if (b.get(s)) l += 1L << s;
        return l;
    }

    int cost(int set) {
        if (!isSet(set)) return NONE;
        if (told.cost == null) return 1;
        int[] in = new int[n()];
        for (int t = 0; t < n(); t++) in[t] = set >> t & 1;
        return Math.max(0, told.cost.value(in, Integer.bitCount(set)));
    }

    int trial(int set, boolean rang) {
        if (!isSet(set) || trials.size() == 60) return NONE;
        trials.add(new Trial(set, rang));
        leftKept = null;
        return trials.size() - 1;
    }

    int hint(int k, int sets) {
        if (k < 0 || k > n() || sets < 0 || sets > 64 || hints.size() == 8) return NONE;
        hints.add(new Hint(k, sets));
        leftKept = null;
        return hints.size() - 1;
    }

    int left(int what) {
        List<Integer> l = lefts();
        if (what == 0) return l.size();
        if (what == 1) return listsOf(l).size();
        if (what == 2) return l.isEmpty() ? NONE : l.get(0);
        return NONE;
    }

    int sure(int set) {
        if (!isSet(set) || lefts().isEmpty()) return NONE;
        int yes = 0;
        for (int w : lefts()) if (rings(weights(w), set)) yes++;
        return yes == lefts().size() ? 1 : yes == 0 ? 0 : 2;
    }

    boolean mattersIn(BitSet list, int thing) {
        for (int s = 0; s < sets(); s++) {
            if ((s >> thing & 1) == 0 && !list.get(s) && list.get(s | 1 << thing)) return true;
        }
        return false;
    }

    boolean alikeIn(BitSet list, int a, int b) {
        for (int s = 0; s < sets(); s++) {
            if ((s >> a & 1) == 1 && (s >> b & 1) == 0) {
                int other = (s & ~(1 << a)) | 1 << b;
                if (list.get(s) != list.get(other)) return false;
            }
        }
        return true;
    }

    int matters(int thing) {
        if (!isThing(thing) || lefts().isEmpty()) return NONE;
        int yes = 0;
        List<BitSet> lists = listsOf(lefts());
        for (BitSet l : lists) if (mattersIn(l, thing)) yes++;
        return yes == lists.size() ? 1 : yes == 0 ? 0 : 2;
    }

    int alike(int a, int b) {
        if (!isThing(a) || !isThing(b) || a == b || lefts().isEmpty()) return NONE;
        int yes = 0;
        List<BitSet> lists = listsOf(lefts());
        for (BitSet l : lists) if (alikeIn(l, a, b)) yes++;
        return yes == lists.size() ? 1 : yes == 0 ? 0 : 2;
    }

    int nextOf(List<Integer> left, int way) {
        List<BitSet> lists = listsOf(left);
        Map<BitSet, Integer> shares = new HashMap<>();
        for (int w : left) shares.merge(listOf(w), 1, Integer::sum);
        int best = NONE;
        long[] bestKey = null;
        for (int s = 0; s < sets(); s++) {
            int ring = 0;
            int weights = 0;
            for (BitSet l : lists) {
                if (l.get(s)) {
                    ring++;
                    weights += shares.get(l);
                }
            }
            if (ring == 0 || ring == lists.size()) continue;
            long more = Math.max(ring, lists.size() - ring);
            long[] key = way == 0 ? new long[] {more, 0} : way == 1 ? new long[] {weights, 0} : new long[] {cost(s), more};
            if (bestKey == null || key[0] < bestKey[0] || key[0] == bestKey[0] && key[1] < bestKey[1]) {
                bestKey = key;
                best = s;
            }
        }
        return best;
    }

    int next(int way) {
        return way < 0 || way > 2 ? NONE : nextOf(lefts(), way);
    }

    int fewest(int what) {
        return fewestFor(0, 0, what);
    }

    int ask(int question, int which, BitSet list, List<BitSet> all) {
        switch (question) {
            case 0: return all.indexOf(list);
            case 1: return mattersIn(list, which) ? 1 : 0;
            case 2: return alikeIn(list, which / 6, which % 6) ? 1 : 0;
            case 3: return list.get(which) ? 1 : 0;
            default: return list.cardinality();
        }
    }

    int depth(int some, List<BitSet> all, int[] answers, Map<Integer, Integer> memo, int[] first) {
        Integer kept = first == null ? memo.get(some) : null;
        if (kept != null) return kept;
        Set<Integer> different = new LinkedHashSet<>();
        for (int i = 0; i < all.size(); i++) if ((some >> i & 1) == 1) different.add(answers[i]);
        int best = 1000;
        if (different.size() <= 1) {
            best = 0;
        } else {
            for (int s = 0; s < sets(); s++) {
                int yes = 0;
                for (int i = 0; i < all.size(); i++) if ((some >> i & 1) == 1 && all.get(i).get(s)) yes |= 1 << i;
                int no = some & ~yes;
                if (yes == 0 || no == 0) continue;
                int d = 1 + Math.max(depth(yes, all, answers, memo, null), depth(no, all, answers, memo, null));
                if (d < best) {
                    best = d;
                    if (first != null) first[0] = s;
                }
            }
        }
        memo.put(some, best);
        return best;
    }

    int fewestFor(int question, int which, int what) {
        if (question < 0 || question > 4 || what < 0 || what > 1 || lefts().isEmpty()) return NONE;
        if (question == 1 && !isThing(which)) return NONE;
        if (question == 2 && (which < 0 || !isThing(which / 6) || !isThing(which % 6) || which / 6 == which % 6)) return NONE;
        if (question == 3 && !isSet(which)) return NONE;
        List<BitSet> all = listsOf(lefts());
        if (all.size() > 12) return NONE;
        int[] answers = new int[all.size()];
        for (int i = 0; i < all.size(); i++) answers[i] = ask(question, which, all.get(i), all);
        int[] first = {NONE};
        int d = depth((1 << all.size()) - 1, all, answers, new HashMap<>(), first);
        return what == 0 ? d : first[0];
    }

    /** The SETS of a RUN, or null if there is none. */
    List<Integer> runOf(int weights, int way) {
        if (way < 0 || way > 2 || !isWeights(weights) || !lefts().contains(weights)) return null;
        List<Integer> left = new ArrayList<>(lefts());
        List<Integer> sets = new ArrayList<>();
        int[] hidden = weights(weights);
        while (listsOf(left).size() > 1 && sets.size() < 60) {
            int s = nextOf(left, way);
            sets.add(s);
            left.removeIf(w -> rings(weights(w), s) != rings(hidden, s));
        }
        return sets;
    }

    int run(int weights, int way, int what) throws NoSuchElementException {
        List<Integer> r = runOf(weights, way);
        if (r == null || what < 0 || what > 2) throw new NoSuchElementException();
        int rang = 0;
        int costs = 0;
        for (int s : r) {
            if (rings(weights(weights), s)) rang++;
            costs += cost(s);
        }
        return what == 0 ? r.size() : what == 1 ? rang : costs;
    }

    int runSet(int weights, int way, int i) {
        List<Integer> r = runOf(weights, way);
        return r == null || i < 0 || i >= r.size() ? NONE : r.get(i);
    }

    int worst(int way) {
        if (way < 0 || way > 2 || lefts().isEmpty()) return NONE;
        int worst = 0;
        for (int w : lefts()) worst = Math.max(worst, runOf(w, way).size());
        return worst;
    }

    int mean(int way, int what) {
        if (way < 0 || way > 2 || what < 0 || what > 1 || lefts().isEmpty()) return NONE;
        int sum = 0;
        for (int w : lefts()) sum += runOf(w, way).size();
        return part(sum, lefts().size(), what);
    }

    /** sum, bar, number of the least WEIGHTS and bar with these answers; null if there are none. */
    int[] least(Map<Integer, Boolean> must, boolean clash) {
        int[] best = null;
        for (int i = 0; i < all() && !clash; i++) {
            int[] w = weights(i);
            for (int bar = 1; bar <= 62; bar++) {
                boolean fits = true;
                for (Map.Entry<Integer, Boolean> m : must.entrySet()) {
                    fits &= (weight(w, m.getKey()) >= bar) == m.getValue();
                }
                if (fits) {
                    int[] now = {Arrays.stream(w).sum(), bar, i};
                    if (best == null || Arrays.compare(now, best) < 0) best = now;
                    break;
                }
            }
        }
        return best;
    }

    int smallest(int what) {
        if (what < 0 || what > 2) return NONE;
        Map<Integer, Boolean> must = new TreeMap<>();
        boolean clash = false;
        for (Trial t : trials) {
            Boolean before = must.put(t.set, t.rang);
            clash |= before != null && before != t.rang;
        }
        int[] best = least(must, clash);
        return best == null ? NONE : best[what];
    }

    int same(int weights, int what) {
        if (!isWeights(weights) || what < 0 || what > 2) return NONE;
        Map<Integer, Boolean> must = new TreeMap<>();
        for (int s = 0; s < sets(); s++) must.put(s, rings(weights(weights), s));
        int[] best = least(must, false);
        return best == null ? NONE : best[what];
    }

    /** All rows of so many of the numbers that do not fall, in order. */
    static List<int[]> rows(List<Integer> of, int size) {
        List<int[]> all = new ArrayList<>();
        all.add(new int[0]);
        for (int i = 0; i < size; i++) {
            List<int[]> longer = new ArrayList<>();
            for (int[] r : all) {
                for (int x : of) {
                    if (i == 0 || x >= r[i - 1]) {
                        int[] more = Arrays.copyOf(r, i + 1);
                        more[i] = x;
                        longer.add(more);
                    }
                }
            }
            all = longer;
        }
        return all;
    }

    int cannot(int what) {
        if (what < 0 || what > 6 || smallest(0) != NONE) return NONE;
        List<Integer> rang = new ArrayList<>();
        List<Integer> not = new ArrayList<>();
        for (int i = 0; i < trials.size(); i++) (trials.get(i).rang ? rang : not).add(i);
        for (int pairs = 1; pairs <= 3; pairs++) {
            for (int[] r : rows(rang, pairs)) {
                for (int[] o : rows(not, pairs)) {
                    boolean fits = true;
                    for (int t = 0; t < n() && fits; t++) {
                        int more = 0;
                        for (int x : r) more += trials.get(x).set >> t & 1;
                        for (int x : o) more -= trials.get(x).set >> t & 1;
                        fits = more <= 0;
                    }
                    if (fits) {
                        if (what == 0) return pairs;
                        int i = (what - 1) % 3;
                        return i >= pairs ? NONE : what <= 3 ? r[i] : o[i];
                    }
                }
            }
        }
        return NONE;
    }

    int wrongs(int number) {
        int c = 0;
        for (Trial t : trials) if (rings(weights(number), t.set) != t.rang) c++;
        return c;
    }

    List<Integer> leastWrong() {
        int best = 1000;
        List<Integer> all = new ArrayList<>();
        for (int w : mays()) {
            int c = wrongs(w);
            if (c < best) {
                best = c;
                all.clear();
            }
            if (c == best) all.add(w);
        }
        return all;
    }

    int wrong(int what) {
        List<Integer> l = leastWrong();
        if (what < 0 || what > 1 || l.isEmpty()) return NONE;
        return what == 0 ? wrongs(l.get(0)) : l.size();
    }

    int suspect(int trial) {
        List<Integer> l = leastWrong();
        if (trial < 0 || trial >= trials.size() || l.isEmpty()) return NONE;
        for (int w : l) if (rings(weights(w), trials.get(trial).set) == trials.get(trial).rang) return 0;
        return 1;
    }

    int with(int wrong) {
        if (wrong < 0 || wrong > 60) return NONE;
        int c = 0;
        for (int w : mays()) if (wrongs(w) <= wrong) c++;
        return c;
    }

    int grown(int what) {
        if (what < 0 || what > 2) return NONE;
        List<Integer> mays = mays();
        for (int w : mays) if (wrongs(w) == 0) return NONE;
        for (int d = 1; d <= 5; d++) {
            for (int from = trials.size() - 1; from >= 0; from--) {
                for (int thing = 0; thing < n(); thing++) {
                    for (int number : mays) {
                        int[] w = weights(number);
                        boolean fits = true;
                        for (int i = 0; i < trials.size() && fits; i++) {
                            if (i == from) w[thing] += d;
                            fits = rings(w, trials.get(i).set) == trials.get(i).rang;
                        }
                        if (fits) return what == 0 ? d : what == 1 ? from : thing;
                    }
                }
            }
        }
        return NONE;
    }

    int bells() {
        List<BitSet> lists = listsOf(mays());
        boolean zero = true;
        for (Trial t : trials) zero &= !t.rang;
        if (zero) return 0;
        for (BitSet a : lists) if (bellsFit(a, a)) return 1;
        for (BitSet a : lists) for (BitSet b : lists) if (bellsFit(a, b)) return 2;
        return NONE;
    }

    boolean bellsFit(BitSet a, BitSet b) {
        for (Trial t : trials) if ((a.get(t.set) || b.get(t.set)) != t.rang) return false;
        return true;
    }

    int lateCount(int n) {
        int c = 0;
        for (int w : mays()) {
            boolean fits = true;
            for (int i = n; i < trials.size(); i++) fits &= rings(weights(w), trials.get(i - n).set) == trials.get(i).rang;
            if (fits) c++;
        }
        return c;
    }

    int late(int n, int what) {
        if (n < -1 || n > 5 || what < 0 || what > 1) return NONE;
        int best = n;
        if (n == NONE) {
            best = 0;
            for (int i = 1; i <= 5; i++) if (lateCount(i) > lateCount(best)) best = i;
        }
        return what == 0 ? lateCount(best) : best;
    }

    int often(int what) {
        if (what < 0 || what > 1 || lefts().isEmpty()) return NONE;
        int least = 1000;
        int most = -1;
        for (BitSet l : listsOf(lefts())) {
            least = Math.min(least, l.cardinality());
            most = Math.max(most, l.cardinality());
        }
        return what == 0 ? least : most;
    }

    int rings(int sets) {
        if (sets < 0 || sets > 64) return NONE;
        int c = 0;
        for (BitSet l : listsOf(lefts())) if (l.cardinality() == sets) c++;
        return c;
    }

    int[] orders(int[] w, int thing, int used, int set) {
        if (Integer.bitCount(used) == n()) return new int[] {0, 1};
        int[] sum = {0, 0};
        for (int t = 0; t < n(); t++) {
            if ((used >> t & 1) == 1) continue;
            int[] deeper = orders(w, thing, used | 1 << t, set | 1 << t);
            boolean by = t == thing && !rings(w, set) && rings(w, set | 1 << t);
            sum[0] += by ? deeper[1] : deeper[0];
            sum[1] += deeper[1];
        }
        return sum;
    }

    int vote(int weights, int thing, int what) {
        if (!isWeights(weights) || !isThing(thing) || what < 0 || what > 1) return NONE;
        int[] o = orders(weights(weights), thing, 0, 0);
        return part(o[0], o[1], what);
    }

    int swings(int weights, int thing) {
        if (!isWeights(weights) || !isThing(thing)) return NONE;
        int c = 0;
        int[] w = weights(weights);
        for (int s = 0; s < sets(); s++) if ((s >> thing & 1) == 0 && !rings(w, s) && rings(w, s | 1 << thing)) c++;
        return c;
    }

    int heavy(int weights, boolean light, int what) {
        if (!isWeights(weights) || what < 0 || what > 1) return NONE;
        int[] w = weights(weights);
        int[] best = null;
        for (int s = 0; s < sets(); s++) {
            if (rings(w, s) != light) continue;
            int[] key = {light ? weight(w, s) : -weight(w, s), Integer.bitCount(s), s};
            if (best == null || Arrays.compare(key, best) < 0) best = key;
        }
        return best == null ? NONE : what == 0 ? best[2] : Math.abs(best[0]);
    }

    int leastSet(int weights, int i) {
        if (!isWeights(weights)) return NONE;
        int[] w = weights(weights);
        List<Integer> all = new ArrayList<>();
        for (int s = 0; s < sets(); s++) {
            boolean least = rings(w, s);
            for (int t = 0; t < n(); t++) least &= (s >> t & 1) == 0 || !rings(w, s & ~(1 << t));
            if (least) all.add(s);
        }
        return i == NONE ? all.size() : i < 0 || i >= all.size() ? NONE : all.get(i);
    }

    int vetoes(int weights) {
        if (!isWeights(weights)) return NONE;
        int[] w = weights(weights);
        int bits = 0;
        for (int t = 0; t < n(); t++) {
            boolean always = true;
            for (int s = 0; s < sets(); s++) always &= !rings(w, s) || (s >> t & 1) == 1;
            if (always) bits |= 1 << t;
        }
        return bits;
    }

    int lay(int thing) {
        if (!isThing(thing) || plate.contains(thing)) return NONE;
        plate.add(thing);
        return plate.size();
    }

    boolean clear() {
        plate.clear();
        return true;
    }

    int feather(int weights) {
        if (!isWeights(weights)) return NONE;
        int sum = 0;
        for (int t : plate) {
            sum += weights(weights)[t];
            if (sum >= told.bar) return t;
        }
        return NONE;
    }

    int odds(int set, int what) {
        if (!isSet(set) || what < 0 || what > 1 || lefts().isEmpty()) return NONE;
        int c = 0;
        for (int w : lefts()) if (rings(weights(w), set)) c++;
        return part(c, lefts().size(), what);
    }

    int guess(int thing, int what) {
        if (!isThing(thing) || what < 0 || what > 2 || lefts().isEmpty()) return NONE;
        TreeMap<Integer, Integer> counts = new TreeMap<>();
        for (int w : lefts()) counts.merge(weights(w)[thing], 1, Integer::sum);
        if (what == 1) return counts.firstKey();
        if (what == 2) return counts.lastKey();
        int best = counts.firstKey();
        for (int k : counts.keySet()) if (counts.get(k) > counts.get(best)) best = k;
        return best;
    }

    boolean mark(int mark, boolean back) {
        if (mark < 0 || mark > 3) return false;
        if (!back) {
            marks[mark] = new Mark(trials.size(), hints.size(), ++time);
            return true;
        }
        Mark m = marks[mark];
        if (m == null) return false;
        trials = new ArrayList<>(trials.subList(0, m.trials));
        hints = new ArrayList<>(hints.subList(0, m.hints));
        for (int i = 0; i < 4; i++) if (marks[i] != null && marks[i].time > m.time) marks[i] = null;
        leftKept = null;
        return true;
    }

    int count(int what) {
        switch (what) {
            case 0: return n();
            case 1: return told.most;
            case 2: return told.bar;
            case 3: return all();
            case 4: return mays().size();
            case 5: return listsOf(mays()).size();
            case 6: return trials.size();
            case 7: return (int) trials.stream().filter(Trial::rang).count();
            case 8: return plate.size();
            case 9: return tape.length();
            case 10: return told.allows.size();
            case 11: return hints.size();
            default: return NONE;
        }
    }
}
