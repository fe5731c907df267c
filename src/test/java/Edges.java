import java.io.IOException;
import java.nio.file.Files;
import java.nio.file.Path;
import java.util.BitSet;
import java.util.NoSuchElementException;

/** What the tests of the document's edges share: an object, the sentence that is looked at, the count of what is wrong. */
class Edges {
    static final int NONE = -1;
    static final int LEAST = Integer.MIN_VALUE;
    static final int GREATEST = Integer.MAX_VALUE;

    /** 9 WEIGHTS, and 5 LISTS: none RINGS, 8 (a b), 10 (a, a b), 12 (b, a b), 14 (a, b, a b). */
    static final String TWO = "thing a;thing b;most 2;bar 2;";
    /** 27 WEIGHTS, and 9 LISTS: of the SETS only 3 (a b), 5 (a c), 6 (b c) and 7 may RING. */
    static final String THREE = "thing a;thing b;thing c;most 2;bar 3;";

    static BellPlate x;
    static int wrong = 0;
    private static String sentence = "";
    private static String document = "";
    private static final BitSet named = new BitSet();

    /** Blanks and the marks of the text's boxes do not count when a sentence is looked up. */
    static void open(Path path) throws IOException {
        document = smooth(Files.readString(path).replaceAll("(?m)^```.*$", " "));
    }

    private static String smooth(String text) {
        return text.replaceAll("\\s+", " ").trim();
    }

    /** What follows holds the class to this sentence of the document. */
    static void says(String words) {
        sentence = smooth(words);
        int at = document.indexOf(sentence);
        if (at < 0) {
            wrong++;
            System.out.println("the document does not say: " + sentence);
            return;
        }
        named.set(at, at + sentence.length());
    }

    /** Each sentence from the one text on, up to the other, must have been named; headings are none. */
    static void allNamed(String from, String to) {
        int start = document.indexOf(from);
        int end = document.indexOf(to, Math.max(start, 0));
        due("the document has its parts", start >= 0 && end > start ? 1 : 0, 1);
        StringBuilder open = new StringBuilder();
        for (int i = Math.max(start, 0); i < end; i++) open.append(named.get(i) ? '\n' : document.charAt(i));
        String rest = open.toString().replaceAll("## Terms|## Promise \\d+: (A new object|\\w+)|==== \\d\\.", " ");
        for (String part : rest.split("\n+")) {
            if (!part.isBlank()) {
                wrong++;
                System.out.println("no test for the words: " + part.trim());
            }
        }
    }

    static void due(String call, long got, long want) {
        if (got != want) {
            wrong++;
            System.out.println("[" + sentence + "] " + call + " answered " + got + ", due is " + want);
        }
    }

    static void dueAll(String call, long[] got, long... want) {
        for (int i = 0; i < want.length && i < got.length; i++) due(call + " #" + i, got[i], want[i]);
        due(call + " rows", got.length, want.length);
    }

    static void dueText(String call, String got, String want) {
        if (!got.equals(want)) {
            wrong++;
            System.out.println("[" + sentence + "] " + call + " was " + got + ", due is " + want);
        }
    }

    static long[] row(long... answers) {
        return answers;
    }

    static long bit(boolean b) {
        return b ? 1 : 0;
    }

    static int feed(String text) {
        int size = 0;
        for (int i = 0; i < text.length(); i += 24) {
            long[] v = new long[3];
            for (int k = 0; k < 24; k++) {
                v[k / 8] = v[k / 8] << 8 | (i + k < text.length() ? text.charAt(i + k) : 0);
            }
            size = x.feed(v[0], v[1], v[2]);
        }
        return size;
    }

    static int read(String text) {
        feed(text);
        return x.tower();
    }

    static void start(String text) {
        x = new BellPlate();
        due("tower [" + text + "]", read(text), 0);
    }

    static void fine(String text) {
        due("tower [" + text + "]", read(text), 0);
    }

    static void fault(String text, int kind, int place) {
        due("tower [" + text + "]", read(text), kind + 16 * place);
    }

    /** Of a cost line: what the SET of no THING costs. */
    static void costs(String formula, int want) {
        x = new BellPlate();
        fine("cost " + formula + ";");
        due("cost " + formula, x.cost(0), want);
    }

    static String things(int n) {
        StringBuilder b = new StringBuilder();
        for (int t = 0; t < n; t++) b.append("thing ").append((char) ('a' + t)).append(";");
        return b.toString();
    }

    static void rang(int... sets) {
        for (int s : sets) due("trial(" + s + ", true) is taken", bit(x.trial(s, true) >= 0), 1);
    }

    static void silent(int... sets) {
        for (int s : sets) due("trial(" + s + ", false) is taken", bit(x.trial(s, false) >= 0), 1);
    }

    /** Numbers below and above the bounds: just so, far off, and those that some wrap-around would bring back. */
    static int[] outside(int low, int high) {
        return new int[] {LEAST, LEAST + 1, -65536, -64, -32, low - 3, low - 2, low - 1,
            high + 1, high + 2, high + 32, high + 64, high + 256, high + 65536, GREATEST - 1, GREATEST};
    }

    /** 1: NoSuchElementException, as promised; 0: an answer. */
    static int thrown(int weights, int way, int what) {
        try {
            x.run(weights, way, what);
        } catch (NoSuchElementException e) {
            return 1;
        }
        return 0;
    }

    /** All that small towers tell of their state without a change of it, but for the MARKS. */
    static String state() {
        StringBuilder b = new StringBuilder();
        for (int i = 0; i < 12; i++) b.append(x.count(i)).append(' ');
        for (int i = 0; i < 3; i++) b.append(x.left(i)).append(' ').append(x.smallest(i)).append(' ').append(x.next(i)).append(' ');
        for (int s = 0; s < 1 << x.count(0); s++) b.append(x.cost(s)).append(x.sure(s)).append(' ');
        int all = x.count(3);
        b.append(x.may(0)).append(' ').append(x.list(all - 1)).append(' ').append(x.feather(all - 1)).append(' ');
        b.append(x.with(0)).append(' ').append(x.late(1, 0));
        return b.toString();
    }
}
