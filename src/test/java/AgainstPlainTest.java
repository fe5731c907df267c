import java.util.NoSuchElementException;
import java.util.Random;

/** Random runs of calls on BellPlate and on PlainBell: each answer must be the same. */
public final class AgainstPlainTest {
    private static int wrong = 0;
    private static final StringBuilder story = new StringBuilder();

    private static BellPlate x;
    private static PlainBell y;
    private static Random r;

    private static void due(String call, long got, long want) {
        if (got != want) {
            wrong++;
            System.out.println(story + "  " + call + " answered " + got + ", due is " + want);
        }
    }

    static void feedBoth(String text) {
        for (int i = 0; i < text.length(); i += 24) {
            long[] v = new long[3];
            for (int k = 0; k < 24; k++) {
                int c = i + k < text.length() ? text.charAt(i + k) : 0;
                v[k / 8] = v[k / 8] << 8 | c;
            }
            due("feed", x.feed(v[0], v[1], v[2]), y.feed(v[0], v[1], v[2]));
        }
    }

    private static String name() {
        return String.valueOf((char) ('a' + r.nextInt(7)));
    }

    private static String part(int depth, int things, boolean cost) {
        switch (r.nextInt(depth > 3 ? 4 : 7)) {
            case 0: return String.valueOf(r.nextInt(6));
            case 1: return cost ? "size" : "sum";
            case 2:
            case 3: return things == 0 ? "1" : String.valueOf((char) ('a' + r.nextInt(things)));
            case 4: return "not " + part(depth + 1, things, cost);
            default: return "( " + expression(depth + 1, things, cost) + " )";
        }
    }

    private static String sum(int depth, int things, boolean cost) {
        StringBuilder b = new StringBuilder(part(depth, things, cost));
        while (r.nextInt(3) == 0 && b.length() < 60) {
            b.append(new String[] {" + ", " - ", " * ", "+", "-", "*"}[r.nextInt(6)]).append(part(depth, things, cost));
        }
        return b.toString();
    }

    private static String expression(int depth, int things, boolean cost) {
        StringBuilder b = new StringBuilder(sum(depth, things, cost));
        if (r.nextInt(2) == 0) {
            b.append(r.nextBoolean() ? " < " : " = ").append(sum(depth, things, cost));
        }
        if (r.nextInt(4) == 0 && b.length() < 80) {
            b.append(r.nextBoolean() ? " and " : " or ").append(expression(depth, things, cost));
        }
        return b.toString();
    }

    private static String tower(int things, int most) {
        StringBuilder b = new StringBuilder();
        for (int t = 0; t < things; t++) b.append("thing ").append((char) ('a' + t)).append(" ; ");
        if (r.nextInt(9) != 0 || most != 3) b.append("most ").append(most).append(";");
        if (r.nextInt(9) != 0) {
            int top = r.nextBoolean() ? most * Math.max(things, 1) : most + 2;
            b.append("bar ").append(1 + r.nextInt(Math.min(60, top))).append(" ;\n");
        }
        int allows = Math.max(0, r.nextInt(5) - 2);
        for (int i = 0; i < allows; i++) b.append("allow ").append(expression(0, things, false)).append(" ;");
        if (r.nextBoolean()) b.append("cost ").append(expression(0, things, true)).append(";");
        return b.toString();
    }

    private static final String[] BITS = {"thing", "most", "bar", "allow", "cost", "not", "and", "or", "sum", "size",
        "a", "b", "c", "d", "e", "f", "g", "(", ")", "<", "=", "+", "-", "*", ";", "0", "1", "3", "9", "60", "61", "1234",
        "12345", "toolongword", "eightlet", "A", "?", "7up", "x1", "_"};

    /** Changes a text here and there, so that all kinds of FAULTS come. */
    private static String spoil(String text) {
        StringBuilder b = new StringBuilder(text);
        int times = 1 + r.nextInt(2);
        for (int i = 0; i < times && b.length() > 0; i++) {
            int at = r.nextInt(b.length());
            switch (r.nextInt(4)) {
                case 0: b.deleteCharAt(at); break;
                case 1: b.insert(at, " " + BITS[r.nextInt(BITS.length)] + " "); break;
                case 2: b.setLength(at); break;
                default: b.append(' ').append(BITS[r.nextInt(BITS.length)]).append(' ').append(BITS[r.nextInt(BITS.length)]);
            }
        }
        return b.toString();
    }

    private static String jumble() {
        StringBuilder b = new StringBuilder();
        int times = r.nextInt(14);
        for (int i = 0; i < times; i++) b.append(BITS[r.nextInt(BITS.length)]).append(r.nextInt(3) == 0 ? "" : " ");
        return b.toString();
    }

    private static void texts(int rounds) {
        for (int i = 0; i < rounds; i++) {
            r = new Random(1000 + i);
            x = new BellPlate();
            y = new PlainBell();
            for (int k = 0; k < 12; k++) {
                String good = tower(r.nextInt(8), 1 + r.nextInt(3));
                String text = r.nextInt(4) == 0 ? jumble() : r.nextInt(3) == 0 ? good : spoil(good);
                story.setLength(0);
                story.append("text ").append(i).append(" [").append(text).append("]");
                feedBoth(text);
                due("tower()", x.tower(), y.tower());
                for (int w = 0; w < 12; w++) due("count(" + w + ")", x.count(w), y.count(w));
                for (int s = -1; s < 65; s++) due("cost(" + s + ")", x.cost(s), y.cost(s));
            }
        }
    }

    private static int some(int below) {
        switch (r.nextInt(12)) {
            case 0: return r.nextInt(below + 3) - 2;
            case 1: return r.nextInt();
            default: return r.nextInt(Math.max(1, below));
        }
    }

    private static int leftWeights() {
        int w = r.nextInt(y.all());
        for (int i = 0; i < 30 && !y.isLeft(w); i++) w = r.nextInt(y.all());
        return w;
    }

    private static void askRun(int w, int way, int what) {
        long got = -99;
        long want = -99;
        try {
            got = x.run(w, way, what);
        } catch (NoSuchElementException e) {
            got = -98;
        }
        try {
            want = y.run(w, way, what);
        } catch (NoSuchElementException e) {
            want = -98;
        }
        due("run(" + w + ", " + way + ", " + what + ")", got, want);
    }

    private static void tell(int hidden) {
        int pick = r.nextInt(10);
        int s = some(y.sets());
        if (pick < 6) {
            boolean b = y.isSet(s) && hidden >= 0 && r.nextInt(8) != 0 ? y.rings(y.weights(hidden), s) : r.nextBoolean();
            story.append(" trial(").append(s).append(",").append(b).append(")");
            due("trial", x.trial(s, b), y.trial(s, b));
        } else if (pick == 6) {
            int k = some(y.n() + 1);
            int c = r.nextInt(3) == 0 ? some(65) : 0;
            if (k >= 0 && k <= y.n() && hidden >= 0 && r.nextInt(4) != 0) {
                c = 0;
                for (int q = 0; q < y.sets(); q++) if (Integer.bitCount(q) == k && y.rings(y.weights(hidden), q)) c++;
            }
            story.append(" hint(").append(k).append(",").append(c).append(")");
            due("hint", x.hint(k, c), y.hint(k, c));
        } else if (pick < 9) {
            int m = some(4);
            boolean back = r.nextInt(3) == 0;
            story.append(" mark(").append(m).append(",").append(back).append(")");
            due("mark", x.mark(m, back) ? 1 : 0, y.mark(m, back) ? 1 : 0);
        } else {
            int t = some(y.n());
            story.append(" lay(").append(t).append(")");
            if (r.nextInt(4) == 0) due("clear", x.clear() ? 1 : 0, y.clear() ? 1 : 0);
            due("lay", x.lay(t), y.lay(t));
        }
    }

    private static void askOfLeft() {
        int s = some(y.sets());
        int a = some(y.n());
        int b = some(y.n());
        int what = some(3);
        int way = some(3);
        for (int i = -1; i < 4; i++) due("left(" + i + ")", x.left(i), y.left(i));
        due("sure(" + s + ")", x.sure(s), y.sure(s));
        due("matters(" + a + ")", x.matters(a), y.matters(a));
        due("alike(" + a + ", " + b + ")", x.alike(a, b), y.alike(a, b));
        due("next(" + way + ")", x.next(way), y.next(way));
        due("often(" + what + ")", x.often(what), y.often(what));
        int n = some(65);
        due("rings(" + n + ")", x.rings(n), y.rings(n));
        due("odds(" + s + ", " + what + ")", x.odds(s, what), y.odds(s, what));
        due("guess(" + a + ", " + what + ")", x.guess(a, what), y.guess(a, what));
        for (int i = 0; i < 2; i++) due("fewest(" + i + ")", x.fewest(i), y.fewest(i));
        int q = some(5);
        int which = q == 2 ? r.nextInt(4) == 0 ? some(40) : 6 * a + b : q == 3 ? s : a;
        due("fewestFor(" + q + ", " + which + ", " + what + ")", x.fewestFor(q, which, what), y.fewestFor(q, which, what));
    }

    private static void askOfRuns() {
        int way = some(3);
        int what = some(3);
        int w = r.nextInt(5) == 0 ? some(y.all()) : leftWeights();
        askRun(w, way, what);
        int i = some(6);
        due("runSet(" + w + ", " + way + ", " + i + ")", x.runSet(w, way, i), y.runSet(w, way, i));
        if (y.lefts().size() <= 130) {
            due("worst(" + way + ")", x.worst(way), y.worst(way));
            due("mean(" + way + ", " + what + ")", x.mean(way, what), y.mean(way, what));
        }
    }

    private static void askOfBook() {
        int what = some(3);
        due("smallest(" + what + ")", x.smallest(what), y.smallest(what));
        if (y.count(6) <= 14) {
            int c = some(7);
            due("cannot(" + c + ")", x.cannot(c), y.cannot(c));
            due("cannot(0)", x.cannot(0), y.cannot(0));
        }
        due("wrong(" + what + ")", x.wrong(what), y.wrong(what));
        int t = some(y.count(6));
        due("suspect(" + t + ")", x.suspect(t), y.suspect(t));
        int k = r.nextBoolean() ? some(3) : some(61);
        due("with(" + k + ")", x.with(k), y.with(k));
        due("grown(" + what + ")", x.grown(what), y.grown(what));
        if (y.all() <= 300) due("bells()", x.bells(), y.bells());
        int n = some(7) - 1;
        due("late(" + n + ", " + what + ")", x.late(n, what), y.late(n, what));
    }

    private static void askOfWeights() {
        int w = some(y.all());
        int t = some(y.n());
        int what = some(3);
        due("may(" + w + ")", x.may(w), y.may(w));
        due("list(" + w + ")", x.list(w), y.list(w));
        due("vote(" + w + ", " + t + ", " + what + ")", x.vote(w, t, what), y.vote(w, t, what));
        due("swings(" + w + ", " + t + ")", x.swings(w, t), y.swings(w, t));
        boolean light = r.nextBoolean();
        due("heavy(" + w + ", " + light + ", " + what + ")", x.heavy(w, light, what), y.heavy(w, light, what));
        int i = some(6) - 1;
        due("leastSet(" + w + ", " + i + ")", x.leastSet(w, i), y.leastSet(w, i));
        due("vetoes(" + w + ")", x.vetoes(w), y.vetoes(w));
        due("same(" + w + ", " + what + ")", x.same(w, what), y.same(w, what));
        due("feather(" + w + ")", x.feather(w), y.feather(w));
        int c = some(13);
        due("count(" + c + ")", x.count(c), y.count(c));
        int s = some(y.sets());
        due("cost(" + s + ")", x.cost(s), y.cost(s));
    }

    private static void books(int rounds, int most) {
        for (int i = 0; i < rounds; i++) {
            r = new Random(50_000L + i);
            x = new BellPlate();
            y = new PlainBell();
            for (int towers = 0; towers < 3; towers++) {
                int things = r.nextInt(7);
                int m = 1 + r.nextInt(5);
                while (Math.pow(m + 1, things) > most) {
                    if (m > 1) m--; else things--;
                }
                String text = tower(things, m);
                story.setLength(0);
                story.append("book ").append(i).append(" [").append(text).append("]");
                feedBoth(text);
                due("tower()", x.tower(), y.tower());
                int hidden = r.nextInt(6) == 0 ? -1 : leftWeights();
                int tells = 2 + r.nextInt(r.nextInt(6) == 0 ? 75 : 12);
                for (int k = 0; k < tells; k++) {
                    tell(hidden);
                    if (r.nextInt(3) == 0) askOfLeft();
                    if (r.nextInt(5) == 0) askOfRuns();
                    if (r.nextInt(3) == 0) askOfBook();
                    if (r.nextInt(3) == 0) askOfWeights();
                }
                for (int c = 0; c < 12; c++) due("count(" + c + ")", x.count(c), y.count(c));
            }
        }
    }

    private static void start(String text) {
        x = new BellPlate();
        y = new PlainBell();
        story.append(" [").append(text).append("]");
        feedBoth(text);
        due("tower()", x.tower(), y.tower());
    }

    private static void trialBoth(int s, boolean b) {
        story.append(" trial(").append(s).append(",").append(b).append(")");
        due("trial", x.trial(s, b), y.trial(s, b));
    }

    private static String things(int n) {
        StringBuilder b = new StringBuilder();
        for (int t = 0; t < n; t++) b.append("thing ").append((char) ('a' + t)).append(";");
        return b.toString();
    }

    /** SETS of about half of the THINGS, told at random: TRIALS that can't be together, two bells. */
    private static void trades(int rounds) {
        for (int i = 0; i < rounds; i++) {
            r = new Random(900_000L + i);
            story.setLength(0);
            story.append("trade ").append(i);
            int n = 4 + r.nextInt(3);
            start(things(n) + "most " + (1 + r.nextInt(n == 6 ? 1 : 2)) + ";bar " + (1 + r.nextInt(n)) + ";");
            int size = n / 2 + (r.nextInt(3) == 0 ? 1 : 0);
            int told = 4 + r.nextInt(9);
            long seen = 0;
            for (int k = 0; k < told; k++) {
                int s = r.nextInt(y.sets());
                for (int c = 0; c < 50 && (Integer.bitCount(s) != size || (seen >> s & 1) != 0); c++) s = r.nextInt(y.sets());
                if (Integer.bitCount(s) == size && (seen >> s & 1) == 0) trialBoth(s, r.nextBoolean());
                seen |= 1L << s;
            }
            askTrade();
        }
    }

    private static void askTrade() {
        for (int c = -1; c < 8; c++) due("cannot(" + c + ")", x.cannot(c), y.cannot(c));
        for (int c = -1; c < 4; c++) due("smallest(" + c + ")", x.smallest(c), y.smallest(c));
        due("bells()", x.bells(), y.bells());
    }

    /** Three and three that can be traded, found by chance among rows of unlike THINGS. */
    private static void threes(int rounds) {
        for (int i = 0; i < rounds; i++) {
            r = new Random(700_000L + i);
            story.setLength(0);
            story.append("three ").append(i);
            start(things(6) + "most 1;");
            int[] sets = tradedSets();
            for (int c = 0; c < 200 && oneWillDo(sets); c++) sets = tradedSets();
            for (int k = 0; k < 6; k++) trialBoth(sets[(k * 5 + i) % 6], (k * 5 + i) % 6 < 3);
            if (r.nextInt(3) == 0) trialBoth(r.nextInt(64), r.nextBoolean());
            askTrade();
        }
    }

    /** Three SETS, and three others with the same THINGS as often. */
    private static int[] tradedSets() {
        int[] sets = new int[6];
        for (int k = 0; k < 3; k++) sets[k] = r.nextInt(64);
        for (int t = 0; t < 6; t++) {
            int c = (sets[0] >> t & 1) + (sets[1] >> t & 1) + (sets[2] >> t & 1);
            int turn = r.nextInt(3);
            for (int k = 0; k < c; k++) sets[3 + (turn + k) % 3] |= 1 << t;
        }
        return sets;
    }

    private static boolean oneWillDo(int[] sets) {
        for (int a = 0; a < 3; a++) {
            for (int b = 3; b < 6; b++) if ((sets[a] & ~sets[b]) == 0) return true;
        }
        return false;
    }

    /** Books that two bells, a late bell or a THING that grows have told. */
    private static void oddBooks(int rounds) {
        for (int i = 0; i < rounds; i++) {
            r = new Random(300_000L + i);
            story.setLength(0);
            story.append("odd ").append(i);
            int n = 2 + r.nextInt(3);
            start(tower(n, 1 + r.nextInt(3)));
            int one = r.nextInt(y.all());
            int other = r.nextInt(y.all());
            int kind = r.nextInt(3);
            int lag = r.nextInt(6);
            int told = 3 + r.nextInt(20);
            int from = r.nextInt(told);
            int thing = r.nextInt(n);
            int by = 1 + r.nextInt(6);
            int[] sets = new int[told];
            for (int k = 0; k < told; k++) {
                sets[k] = r.nextInt(y.sets());
                int[] w = y.weights(one);
                if (kind == 2 && k >= from) w[thing] += by;
                boolean b = y.rings(w, sets[k]);
                if (kind == 0) b |= y.rings(y.weights(other), sets[k]);
                if (kind == 1) b = k < lag ? r.nextBoolean() : y.rings(w, sets[k - lag]);
                trialBoth(sets[k], b);
            }
            for (int c = -1; c < 4; c++) due("grown(" + c + ")", x.grown(c), y.grown(c));
            due("bells()", x.bells(), y.bells());
            for (int c = -2; c < 7; c++) {
                for (int k = -1; k < 3; k++) due("late(" + c + ", " + k + ")", x.late(c, k), y.late(c, k));
            }
            for (int c = -1; c < 3; c++) due("wrong(" + c + ")", x.wrong(c), y.wrong(c));
            for (int c = -1; c <= told; c++) due("suspect(" + c + ")", x.suspect(c), y.suspect(c));
            for (int c = -1; c < 5; c++) due("with(" + c + ")", x.with(c), y.with(c));
        }
    }

    /** Full books: 60 TRIALS and 8 HINTS, and more that are refused. */
    private static void fullBooks(int rounds) {
        for (int i = 0; i < rounds; i++) {
            r = new Random(400_000L + i);
            story.setLength(0);
            story.append("full ").append(i);
            start(tower(2 + r.nextInt(3), 1 + r.nextInt(3)));
            int hidden = r.nextInt(y.all());
            for (int k = 0; k < 63; k++) {
                int s = r.nextInt(y.sets());
                trialBoth(s, y.rings(y.weights(hidden), s) ^ r.nextInt(30) == 0);
                if (k % 7 == 0) due("hint", x.hint(0, 0), y.hint(0, 0));
            }
            due("count(6)", x.count(6), 60);
            due("count(7)", x.count(7), y.count(7));
            due("count(11)", x.count(11), 8);
            askOfLeft();
            askOfRuns();
            for (int c = -1; c < 3; c++) due("wrong(" + c + ")", x.wrong(c), y.wrong(c));
            for (int c = 55; c < 62; c++) {
                due("with(" + c + ")", x.with(c), y.with(c));
                due("suspect(" + c + ")", x.suspect(c), y.suspect(c));
            }
            for (int c = 0; c < 3; c++) {
                due("smallest(" + c + ")", x.smallest(c), y.smallest(c));
                due("grown(" + c + ")", x.grown(c), y.grown(c));
            }
            due("bells()", x.bells(), y.bells());
        }
    }

    /** The dear way round: each TRIAL tells one LIST apart, and a RUN would take 63 of them. */
    private static void longRuns() {
        story.setLength(0);
        story.append("long runs");
        start(things(6) + "most 1;bar 1;cost 6 - size;");
        for (int way = 0; way < 3; way++) {
            due("worst(" + way + ")", x.worst(way), y.worst(way));
            due("mean(" + way + ", 0)", x.mean(way, 0), y.mean(way, 0));
            due("mean(" + way + ", 1)", x.mean(way, 1), y.mean(way, 1));
            for (int what = 0; what < 3; what++) askRun(63, way, what);
            for (int i = -1; i < 62; i++) due("runSet(63, " + way + ", " + i + ")", x.runSet(63, way, i), y.runSet(63, way, i));
        }
        due("worst(2)", x.worst(2), 60);
    }

    private static void greatTexts(int rounds) {
        for (int i = 0; i < rounds; i++) {
            r = new Random(600_000L + i);
            String text = tower(r.nextInt(8), 1 + r.nextInt(9));
            story.setLength(0);
            story.append("great ").append(i);
            start(text);
            due("count(3)", x.count(3), y.count(3));
            due("count(4)", x.count(4), y.count(4));
            due("count(5)", x.count(5), y.count(5));
            for (int k = 0; k < 20; k++) {
                int w = some(y.all());
                due("list(" + w + ")", x.list(w), y.list(w));
                due("may(" + w + ")", x.may(w), y.may(w));
            }
        }
    }

    public static void main(String[] args) {
        int times = args.length > 0 ? Integer.parseInt(args[0]) : 1;
        texts(1000 * times);
        greatTexts(150 * times);
        System.out.println("texts: " + wrong + " wrong");
        books(400 * times, 130);
        books(60 * times, 1100);
        System.out.println("books: " + wrong + " wrong");
        trades(300 * times);
        threes(100 * times);
        oddBooks(400 * times);
        fullBooks(60 * times);
        longRuns();
        System.out.println(wrong == 0 ? "all answers are as due" : wrong + " answers are not as due");
        if (wrong != 0) System.exit(1);
    }
}
