import java.util.Arrays;
import java.util.NoSuchElementException;

/** A plate, a bell that rings at a bar, and things whose weights nobody knows: see README.md. */
public final class BellPlate {
    public static final int NONE = -1;

    private final Reader reader;
    private final Tower told;
    private final Lists lists;
    private final Book book;
    private final Rest rest;
    private final Chooser chooser;
    private final Planner planner;
    private final Fit fit;
    private final Doubt doubt;
    private final Power power;
    private final int[] plate;
    private int laid;

    public BellPlate() {
        reader = new Reader();
        told = new Tower();
        lists = new Lists(told);
        book = new Book();
        rest = new Rest(lists, book);
        chooser = new Chooser(told, lists, book, rest);
        planner = new Planner(lists, rest);
        fit = new Fit(told, book);
        doubt = new Doubt(told, lists, book);
        power = new Power(told, lists);
        plate = new int[Tower.MOST_THINGS];
        laid = 0;
        told.priceSets();
        lists.build();
    }

    public int feed(long a, long b, long c) {
        reader.put(a);
        reader.put(b);
        reader.put(c);
        return reader.size();
    }

    public int tower() {
        int fault = reader.read();
        if (fault == 0) {
            told.take(reader.draft());
            lists.build();
            book.forget();
            laid = 0;
        }
        return fault;
    }

    public int may(int weights) {
        if (!told.hasWeights(weights)) {
            return NONE;
        }
        return lists.numberOf(weights) >= 0 ? 1 : 0;
    }

    public long list(int weights) {
        return told.hasWeights(weights) ? lists.listOf(weights) : 0L;
    }

    public int cost(int set) {
        return told.hasSet(set) ? told.costOf(set) : NONE;
    }

    public int trial(int set, boolean rang) {
        return told.hasSet(set) ? book.addTrial(set, rang) : NONE;
    }

    public int hint(int k, int sets) {
        if (k < 0 || k > told.things() || sets < 0 || sets > Sets.ALL) {
            return NONE;
        }
        return book.addHint(k, sets);
    }

    public int left(int what) {
        rest.refresh();
        switch (what) {
            case 0: return rest.weights();
            case 1: return rest.size();
            case 2: return rest.leastWeights();
            default: return NONE;
        }
    }

    public int sure(int set) {
        rest.refresh();
        if (!told.hasSet(set) || rest.size() == 0) {
            return NONE;
        }
        if (Sets.has(rest.every(), set)) {
            return 1;
        }
        return Sets.has(rest.some(), set) ? 2 : 0;
    }

    public int matters(int thing) {
        rest.refresh();
        if (!told.hasThing(thing) || rest.size() == 0) {
            return NONE;
        }
        return planner.allOrNone(Planner.MATTER, thing);
    }

    public int alike(int a, int b) {
        rest.refresh();
        if (!told.hasThing(a) || !told.hasThing(b) || a == b || rest.size() == 0) {
            return NONE;
        }
        return planner.allOrNone(Planner.ALIKE, Tower.MOST_THINGS * a + b);
    }

    public int next(int way) {
        if (!Chooser.isWay(way)) {
            return NONE;
        }
        rest.refresh();
        return chooser.pick(rest.row(), 0, rest.size(), way);
    }

    public int fewest(int what) {
        return fewestFor(Planner.LIST, 0, what);
    }

    public int fewestFor(int question, int which, int what) {
        rest.refresh();
        if (what < 0 || what > 1 || !isQuestion(question, which)
                || rest.size() == 0 || rest.size() > Planner.MOST_LISTS) {
            return NONE;
        }
        planner.plan(question, which);
        return what == 0 ? planner.trials() : planner.firstSet();
    }

    private boolean isQuestion(int question, int which) {
        switch (question) {
            case Planner.LIST:
            case Planner.HOW_MANY:
                return true;
            case Planner.MATTER:
                return told.hasThing(which);
            case Planner.ALIKE:
                int a = which / Tower.MOST_THINGS;
                int b = which % Tower.MOST_THINGS;
                return told.hasThing(a) && told.hasThing(b) && a != b;
            case Planner.RINGS:
                return told.hasSet(which);
            default:
                return false;
        }
    }

    public int run(int weights, int way, int what) throws NoSuchElementException {
        if (!canRun(weights, way) || what < 0 || what > 2) {
            throw new NoSuchElementException("no such run");
        }
        chooser.hide(weights, way);
        switch (what) {
            case 0: return chooser.made();
            case 1: return chooser.rang();
            default: return chooser.paid();
        }
    }

    public int runSet(int weights, int way, int i) {
        if (!canRun(weights, way)) {
            return NONE;
        }
        chooser.hide(weights, way);
        return chooser.setAt(i);
    }

    private boolean canRun(int weights, int way) {
        rest.refresh();
        return Chooser.isWay(way) && told.hasWeights(weights) && rest.holds(weights);
    }

    public int worst(int way) {
        rest.refresh();
        if (!Chooser.isWay(way) || rest.size() == 0) {
            return NONE;
        }
        chooser.tryAll(way);
        return chooser.worstBy(way);
    }

    public int mean(int way, int what) {
        rest.refresh();
        if (!Chooser.isWay(way) || what < 0 || what > 1 || rest.size() == 0) {
            return NONE;
        }
        chooser.tryAll(way);
        return Sets.lowest(chooser.togetherBy(way), rest.weights(), what);
    }

    public int smallest(int what) {
        if (what < 0 || what > 2) {
            return NONE;
        }
        fit.seek(book.setsTold(true, 0), book.setsTold(false, 0));
        return fit.answer(what);
    }

    public int cannot(int what) {
        if (what < 0 || what > 2 * Fit.MOST_PAIRS) {
            return NONE;
        }
        fit.seekTrade();
        return fit.trade(what);
    }

    public int wrong(int what) {
        if (what < 0 || what > 1 || lists.allowed() == 0) {
            return NONE;
        }
        doubt.refresh();
        return what == 0 ? doubt.fewestWrong() : doubt.weightsWith(doubt.fewestWrong());
    }

    public int suspect(int trial) {
        if (!book.hasTrial(trial) || lists.allowed() == 0) {
            return NONE;
        }
        doubt.refresh();
        return doubt.alwaysWrong(trial) ? 1 : 0;
    }

    public int with(int wrong) {
        if (wrong < 0 || wrong > Book.MOST_TRIALS) {
            return NONE;
        }
        doubt.refresh();
        return doubt.weightsWith(wrong);
    }

    public int grown(int what) {
        if (what < 0 || what > 2) {
            return NONE;
        }
        doubt.seekGrowth();
        return doubt.growth(what);
    }

    public int bells() {
        return doubt.bellsNeeded();
    }

    public int late(int n, int what) {
        if (n < NONE || n > Doubt.MOST_LATE || what < 0 || what > 1) {
            return NONE;
        }
        int lag = n == NONE ? doubt.bestLag() : n;
        return what == 0 ? doubt.weightsIfLate(lag) : lag;
    }

    public int often(int what) {
        rest.refresh();
        if (what < 0 || what > 1 || rest.size() == 0) {
            return NONE;
        }
        return what == 0 ? rest.fewestRinging() : rest.mostRinging();
    }

    public int rings(int sets) {
        if (sets < 0 || sets > Sets.ALL) {
            return NONE;
        }
        rest.refresh();
        return rest.listsRinging(sets);
    }

    public int vote(int weights, int thing, int what) {
        if (!told.hasWeights(weights) || !told.hasThing(thing) || what < 0 || what > 1) {
            return NONE;
        }
        return Sets.lowest(power.ordersDecided(weights, thing), power.orders(), what);
    }

    public int swings(int weights, int thing) {
        if (!told.hasWeights(weights) || !told.hasThing(thing)) {
            return NONE;
        }
        return Long.bitCount(Sets.swung(lists.listOf(weights), thing));
    }

    public int heavy(int weights, boolean light, int what) {
        if (!told.hasWeights(weights) || what < 0 || what > 1) {
            return NONE;
        }
        int set = power.nearest(weights, light);
        if (set == NONE || what == 0) {
            return set;
        }
        return power.weightOf(set);
    }

    public int leastSet(int weights, int i) {
        if (!told.hasWeights(weights)) {
            return NONE;
        }
        long least = Sets.leastOf(lists.listOf(weights));
        return i == NONE ? Long.bitCount(least) : Sets.ith(least, i);
    }

    public int vetoes(int weights) {
        return told.hasWeights(weights) ? power.inAllThatRing(weights) : NONE;
    }

    public int same(int weights, int what) {
        if (!told.hasWeights(weights) || what < 0 || what > 2) {
            return NONE;
        }
        long ringing = lists.listOf(weights);
        fit.seek(ringing, told.allSets() & ~ringing);
        return fit.answer(what);
    }

    public int lay(int thing) {
        if (!told.hasThing(thing) || laid >= plate.length) {
            return NONE;
        }
        for (int i = 0; i < laid; i++) {
            if (plate[i] == thing) {
                return NONE;
            }
        }
        plate[laid] = thing;
        laid++;
        return laid;
    }

    public boolean clear() {
        laid = 0;
        return true;
    }

    public int feather(int weights) {
        if (!told.hasWeights(weights)) {
            return NONE;
        }
        long ringing = lists.listOf(weights);
        int set = 0;
        for (int i = 0; i < laid; i++) {
            set |= 1 << plate[i];
            if (Sets.has(ringing, set)) {
                return plate[i];
            }
        }
        return NONE;
    }

    public int odds(int set, int what) {
        rest.refresh();
        if (!told.hasSet(set) || what < 0 || what > 1 || rest.size() == 0) {
            return NONE;
        }
        return Sets.lowest(rest.weightsRinging(set), rest.weights(), what);
    }

    public int guess(int thing, int what) {
        rest.refresh();
        if (!told.hasThing(thing) || what < 0 || what > 2 || rest.size() == 0) {
            return NONE;
        }
        rest.countWeightsOf(thing, told);
        switch (what) {
            case 0: return rest.likeliest();
            case 1: return rest.lightest();
            default: return rest.heaviest();
        }
    }

    public boolean mark(int mark, boolean back) {
        if (mark < 0 || mark >= Book.MARKS) {
            return false;
        }
        return back ? book.goBack(mark) : book.layMark(mark);
    }

    public int count(int what) {
        switch (what) {
            case 0: return told.things();
            case 1: return told.most();
            case 2: return told.bar();
            case 3: return told.all();
            case 4: return lists.allowed();
            case 5: return lists.size();
            case 6: return book.trials();
            case 7: return book.ringing();
            case 8: return laid;
            case 9: return reader.size();
            case 10: return told.allows();
            case 11: return book.hints();
            default: return NONE;
        }
    }

    /** SETS as the bits of a long: bit S stands for SET S, so a LIST is worked on whole. */
    private static final class Sets {
        static final int ALL = 64;
        private static final int THINGS = 6;
        private static final int GCD_STEPS = 64;
        private static final long[] WITHOUT = {
            0x5555555555555555L, 0x3333333333333333L, 0x0f0f0f0f0f0f0f0fL,
            0x00ff00ff00ff00ffL, 0x0000ffff0000ffffL, 0x00000000ffffffffL
        };
        private static final long[] OF_SIZE = {
            0x0000000000000001L, 0x0000000100010116L, 0x0001011601161668L, 0x0116166816686880L,
            0x1668688068808000L, 0x6880800080000000L, 0x8000000000000000L
        };

        private Sets() {
        }

        static boolean has(long sets, int set) {
            return (sets >>> set & 1L) != 0L;
        }

        static long ofSize(int k) {
            return k >= 0 && k < OF_SIZE.length ? OF_SIZE[k] : 0L;
        }

        /** The SETS without the THING that don't RING, and do with it. */
        static long swung(long list, int thing) {
            if (thing < 0 || thing >= THINGS) {
                return 0L;
            }
            return (list >>> (1 << thing)) & ~list & WITHOUT[thing];
        }

        /** Moving a SET's bit by a fixed way puts the one THING in the other one's place. */
        static boolean swappable(long list, int a, int b) {
            int low = Math.min(a, b);
            int high = Math.max(a, b);
            if (low < 0 || high >= THINGS) {
                return false;
            }
            long lowAlone = ~WITHOUT[low] & WITHOUT[high];
            int way = (1 << high) - (1 << low);
            return ((list ^ (list >>> way)) & lowAlone) == 0L;
        }

        /** Those that hold no other one of them. */
        static long leastOf(long sets) {
            long above = sets;
            for (int t = 0; t < THINGS; t++) {
                above |= (above & WITHOUT[t]) << (1 << t);
            }
            long over = 0L;
            for (int t = 0; t < THINGS; t++) {
                over |= (above & WITHOUT[t]) << (1 << t);
            }
            return sets & ~over;
        }

        /** Those that lie in no other one of them. */
        static long greatestOf(long sets) {
            long below = sets;
            for (int t = 0; t < THINGS; t++) {
                below |= (below & ~WITHOUT[t]) >>> (1 << t);
            }
            long under = 0L;
            for (int t = 0; t < THINGS; t++) {
                under |= (below & ~WITHOUT[t]) >>> (1 << t);
            }
            return sets & ~under;
        }

        static int ith(long sets, int i) {
            int seen = 0;
            for (int set = 0; set < ALL; set++) {
                if (has(sets, set)) {
                    if (seen == i) {
                        return set;
                    }
                    seen++;
                }
            }
            return NONE;
        }

        /** Writes the SETS in order into the row and tells how many there are. */
        static int spread(long sets, int[] row) {
            int size = 0;
            for (int set = 0; set < ALL && size < row.length; set++) {
                if (has(sets, set)) {
                    row[size] = set;
                    size++;
                }
            }
            return size;
        }

        /** Adds 2 to the plane to the count of each of the SETS; plane i holds bit i of all counts. */
        static void addTo(long[] planes, long sets, int plane) {
            long carry = sets;
            for (int i = plane; i < planes.length && carry != 0L; i++) {
                long next = planes[i] & carry;
                planes[i] ^= carry;
                carry = next;
            }
        }

        static int counted(long[] planes, int used, int set) {
            int sum = 0;
            for (int i = 0; i < used && i < planes.length; i++) {
                sum |= (int) (planes[i] >>> set & 1L) << i;
            }
            return sum;
        }

        /** A fraction in lowest terms: what 0 its upper part, else its lower part. */
        static int lowest(int above, int below, int what) {
            int a = above;
            int b = below;
            for (int i = 0; i < GCD_STEPS && b != 0; i++) {
                int c = a % b;
                a = b;
                b = c;
            }
            if (a == 0) {
                return NONE;
            }
            return (what == 0 ? above : below) / a;
        }
    }

    /** The TAPE, and what reads a TOWER from it. */
    private static final class Reader {
        private static final int TAPE_LENGTH = 1000;
        private static final int MOST_LETTERS = 8;
        private static final int MOST_DIGITS = 4;
        private static final int MOST_WITHIN = 5;

        private static final int ALL_JOINED = 0;
        private static final int COMPARED = 1;
        private static final int ADDED = 2;
        private static final int MULTIPLIED = 3;
        private static final int PARTS = 4;

        private static final int NO_TOKEN = 1;
        private static final int UNKNOWN = 2;
        private static final int AGAIN = 3;
        private static final int NUMBER_OFF = 4;
        private static final int TOO_MANY = 5;
        private static final int TOO_GREAT = 6;

        // The kinds of tokens; a sign's kind is the sign itself, all of which are above these.
        private static final int END = 0;
        private static final int NOTHING = 1;
        private static final int NUMBER = 2;
        private static final int NAME = 3;
        private static final int THING = 4;
        private static final int MOST = 5;
        private static final int BAR = 6;
        private static final int ALLOW = 7;
        private static final int COST = 8;
        private static final int NOT = 9;
        private static final int AND = 10;
        private static final int OR = 11;
        private static final int SUM = 12;
        private static final int SIZE = 13;
        // thing most bar allow cost not and or sum size, in the order of their kinds, a letter a byte.
        private static final long[] WORDS = {
            0x7468696e67L, 0x6d6f7374L, 0x626172L, 0x616c6c6f77L, 0x636f7374L,
            0x6e6f74L, 0x616e64L, 0x6f72L, 0x73756dL, 0x73697a65L
        };
        private static final String SIGNS = "()<=+-*;";

        private final char[] signs;
        private final Tower draft;
        private int size;
        private int at;
        private int kind;
        private int place;
        private int value;
        private long word;
        private int fault;
        private boolean mostTold;
        private boolean barTold;
        private boolean costTold;
        private boolean inCost;

        Reader() {
            signs = new char[TAPE_LENGTH];
            draft = new Tower();
        }

        int size() {
            return size;
        }

        Tower draft() {
            return draft;
        }

        void put(long eight) {
            for (int shift = 56; shift >= 0; shift -= 8) {
                char sign = (char) (eight >>> shift & 255L);
                boolean fine = sign == 10 || sign >= 32 && sign <= 126;
                if (fine && size < TAPE_LENGTH) {
                    signs[size] = sign;
                    size++;
                }
            }
        }

        /** The FAULT, or 0: then the draft is what was told. The TAPE is empty in both cases. */
        int read() {
            at = 0;
            fault = 0;
            mostTold = false;
            barTold = false;
            costTold = false;
            draft.wipe();
            advance();
            for (int i = 0; i < TAPE_LENGTH && fault == 0 && kind != END; i++) {
                switch (kind) {
                    case THING:
                        thingLine();
                        break;
                    case MOST:
                        mostLine();
                        break;
                    case BAR:
                        barLine();
                        break;
                    case ALLOW:
                        allowLine();
                        break;
                    case COST:
                        costLine();
                        break;
                    default:
                        fail(NO_TOKEN);
                }
            }
            if (draft.all() > Tower.MOST_WEIGHTS) {
                fail(TOO_GREAT);
            }
            size = 0;
            return fault;
        }

        private void fail(int kindOfFault) {
            if (fault == 0) {
                fault = kindOfFault + 16 * place;
            }
        }

        private void advance() {
            for (int i = 0; i < TAPE_LENGTH && at < size && isBlank(signs[at]); i++) {
                at++;
            }
            place = at;
            if (at >= size) {
                kind = END;
            } else if (isLetter(signs[at])) {
                readWord();
            } else if (isDigit(signs[at])) {
                readNumber();
            } else {
                char sign = signs[at];
                kind = SIGNS.indexOf(sign) >= 0 ? sign : NOTHING;
                at++;
            }
        }

        private void readWord() {
            word = 0L;
            for (int i = 0; i < TAPE_LENGTH && at < size && isLetter(signs[at]); i++) {
                word = word << 8 | signs[at];
                at++;
            }
            if (at - place > MOST_LETTERS) {
                kind = NOTHING;
                return;
            }
            kind = NAME;
            for (int i = 0; i < WORDS.length; i++) {
                if (WORDS[i] == word) {
                    kind = THING + i;
                }
            }
        }

        private void readNumber() {
            value = 0;
            for (int i = 0; i < TAPE_LENGTH && at < size && isDigit(signs[at]); i++) {
                value = value * 10 + (signs[at] - '0');
                at++;
            }
            kind = at - place > MOST_DIGITS ? NOTHING : NUMBER;
        }

        private static boolean isBlank(char sign) {
            return sign == 10 || sign == 32;
        }

        private static boolean isLetter(char sign) {
            return sign >= 'a' && sign <= 'z';
        }

        private static boolean isDigit(char sign) {
            return sign >= '0' && sign <= '9';
        }

        private void thingLine() {
            if (draft.things() >= Tower.MOST_THINGS) {
                fail(TOO_MANY);
                return;
            }
            advance();
            if (kind != NAME) {
                fail(NO_TOKEN);
            } else if (draft.thingNamed(word) != NONE) {
                fail(AGAIN);
            } else {
                draft.addThing(word);
                advance();
                expect(';');
            }
        }

        private void mostLine() {
            if (mostTold) {
                fail(AGAIN);
                return;
            }
            mostTold = true;
            draft.setMost(numberUpTo(Tower.GREATEST_MOST));
        }

        private void barLine() {
            if (barTold) {
                fail(AGAIN);
                return;
            }
            barTold = true;
            draft.setBar(numberUpTo(Tower.GREATEST_BAR));
        }

        /** Behind a fault the number does not matter: the draft is left then. */
        private int numberUpTo(int greatest) {
            advance();
            if (kind != NUMBER) {
                fail(NO_TOKEN);
                return 1;
            }
            if (value < 1 || value > greatest) {
                fail(NUMBER_OFF);
                return 1;
            }
            int number = value;
            advance();
            expect(';');
            return number;
        }

        private void allowLine() {
            if (draft.allows() >= Tower.MOST_ALLOWS) {
                fail(TOO_MANY);
                return;
            }
            inCost = false;
            draft.beginAllow();
            advance();
            expression(ALL_JOINED, 0);
            expect(';');
            draft.endAllow();
        }

        private void costLine() {
            if (costTold) {
                fail(AGAIN);
                return;
            }
            costTold = true;
            inCost = true;
            draft.beginCost();
            advance();
            expression(ALL_JOINED, 0);
            expect(';');
            draft.endCost();
        }

        private void expect(int sign) {
            if (fault != 0) {
                return;
            }
            if (kind == sign) {
                advance();
            } else {
                fail(NO_TOKEN);
            }
        }

        /** E, TEST, SUM or PRODUCT, by the level; of TESTS alone there is no row of more than two. */
        private void expression(int level, int within) {
            if (level >= PARTS) {
                part(within);
                return;
            }
            expression(level + 1, within);
            int most = level == COMPARED ? 1 : TAPE_LENGTH;
            for (int i = 0; i < most && fault == 0 && levelOfToken() == level; i++) {
                int code = codeOfSign();
                advance();
                expression(level + 1, within);
                draft.add(code);
            }
        }

        private int levelOfToken() {
            switch (kind) {
                case AND:
                case OR:
                    return ALL_JOINED;
                case '<':
                case '=':
                    return COMPARED;
                case '+':
                case '-':
                    return ADDED;
                case '*':
                    return MULTIPLIED;
                default:
                    return PARTS;
            }
        }

        private int codeOfSign() {
            switch (kind) {
                case AND: return Tower.AND;
                case OR: return Tower.OR;
                case '<': return Tower.LESS;
                case '=': return Tower.EQUAL;
                case '+': return Tower.PLUS;
                case '-': return Tower.MINUS;
                default: return Tower.TIMES;
            }
        }

        private void part(int within) {
            int wrongKind = faultOfPart(within);
            if (wrongKind != 0) {
                fail(wrongKind);
            }
            if (fault != 0) {
                return;
            }
            if (kind == NOT) {
                advance();
                part(within + 1);
                draft.add(Tower.NOT);
            } else if (kind == '(') {
                advance();
                expression(ALL_JOINED, within + 1);
                expect(')');
            } else {
                draft.add(codeOfPart());
                advance();
            }
        }

        /** The least kind that the token has as the first one of a PART; 0: it is right. */
        private int faultOfPart(int within) {
            boolean starts = kind == NUMBER || kind == NAME || kind == NOT || kind == '('
                    || kind == (inCost ? SIZE : SUM);
            if (!starts) {
                return NO_TOKEN;
            }
            if (kind == NAME && draft.thingNamed(word) == NONE) {
                return UNKNOWN;
            }
            return within >= MOST_WITHIN ? TOO_MANY : 0;
        }

        private int codeOfPart() {
            if (kind == NUMBER) {
                return Tower.NUMBER + value;
            }
            if (kind == NAME) {
                return Tower.THING + draft.thingNamed(word);
            }
            return Tower.WHOLE;
        }
    }

    /** What a text told: THINGS, most, bar, and the formulas of allow and cost. */
    private static final class Tower {
        static final int MOST_THINGS = 6;
        static final int MOST_ALLOWS = 4;
        static final int MOST_WEIGHTS = 16384;
        static final int GREATEST_MOST = 9;
        static final int GREATEST_BAR = 60;
        private static final int PLAIN_MOST = 3;
        private static final int PLAIN_BAR = 10;

        // A formula's codes, each behind what it works on.
        static final int NOT = 0;
        static final int AND = 1;
        static final int OR = 2;
        static final int LESS = 3;
        static final int EQUAL = 4;
        static final int PLUS = 5;
        static final int MINUS = 6;
        static final int TIMES = 7;
        static final int WHOLE = 8;
        static final int THING = 16;
        static final int NUMBER = 32;
        private static final int CODES = 1000;
        // Four waiting values a level and six levels at most: 32 is above what any formula needs.
        private static final int STACK = 32;
        private static final int COST_LINE = MOST_ALLOWS;

        private final long[] names;
        private final int[] codes;
        private final int[] starts;
        private final int[] ends;
        private final int[] costs;
        private final int[] stack;
        private int used;
        private int things;
        private int most;
        private int bar;
        private int allows;

        Tower() {
            names = new long[MOST_THINGS];
            codes = new int[CODES];
            starts = new int[MOST_ALLOWS + 1];
            ends = new int[MOST_ALLOWS + 1];
            costs = new int[Sets.ALL];
            stack = new int[STACK];
            most = PLAIN_MOST;
            bar = PLAIN_BAR;
        }

        void wipe() {
            used = 0;
            things = 0;
            most = PLAIN_MOST;
            bar = PLAIN_BAR;
            allows = 0;
            starts[COST_LINE] = 0;
            ends[COST_LINE] = 0;
        }

        void take(Tower other) {
            System.arraycopy(other.names, 0, names, 0, MOST_THINGS);
            System.arraycopy(other.codes, 0, codes, 0, CODES);
            System.arraycopy(other.starts, 0, starts, 0, MOST_ALLOWS + 1);
            System.arraycopy(other.ends, 0, ends, 0, MOST_ALLOWS + 1);
            used = other.used;
            things = other.things;
            most = other.most;
            bar = other.bar;
            allows = other.allows;
            priceSets();
        }

        int things() {
            return things;
        }

        int most() {
            return most;
        }

        int bar() {
            return bar;
        }

        int allows() {
            return allows;
        }

        void setMost(int number) {
            most = number;
        }

        void setBar(int number) {
            bar = number;
        }

        void addThing(long name) {
            if (things < MOST_THINGS) {
                names[things] = name;
                things++;
            }
        }

        int thingNamed(long name) {
            for (int t = 0; t < things; t++) {
                if (names[t] == name) {
                    return t;
                }
            }
            return NONE;
        }

        void beginAllow() {
            if (allows < MOST_ALLOWS) {
                starts[allows] = used;
            }
        }

        void endAllow() {
            if (allows < MOST_ALLOWS) {
                ends[allows] = used;
                allows++;
            }
        }

        void beginCost() {
            starts[COST_LINE] = used;
        }

        void endCost() {
            ends[COST_LINE] = used;
        }

        void add(int code) {
            if (used < CODES) {
                codes[used] = code;
                used++;
            }
        }

        /** How many WEIGHTS there are; a draft may tell of more than a TOWER may have. */
        int all() {
            int power = 1;
            for (int t = 0; t < things; t++) {
                power *= most + 1;
            }
            return power;
        }

        int sets() {
            return 1 << things;
        }

        long allSets() {
            return things >= MOST_THINGS ? -1L : (1L << sets()) - 1L;
        }

        boolean hasWeights(int weights) {
            return weights >= 0 && weights < all();
        }

        boolean hasSet(int set) {
            return set >= 0 && set < sets();
        }

        boolean hasThing(int thing) {
            return thing >= 0 && thing < things;
        }

        int costOf(int set) {
            return hasSet(set) ? costs[set] : 0;
        }

        /** Writes each THING's WEIGHT into the row. */
        void spread(int weights, int[] row) {
            int number = weights;
            int base = Math.max(most + 1, 1);
            for (int t = 0; t < things && t < row.length; t++) {
                row[t] = number % base;
                number /= base;
            }
        }

        /** Makes the row that of the next number; tells by how much the sum changes. */
        int step(int[] row) {
            int change = 0;
            for (int t = 0; t < things && t < row.length; t++) {
                if (row[t] < most) {
                    row[t]++;
                    return change + 1;
                }
                change -= row[t];
                row[t] = 0;
            }
            return change;
        }

        static int sumOf(int set, int[] row) {
            int sum = 0;
            for (int t = 0; t < row.length; t++) {
                if ((set >> t & 1) != 0) {
                    sum += row[t];
                }
            }
            return sum;
        }

        boolean permits(int[] row, int sum) {
            for (int line = 0; line < allows; line++) {
                if (value(line, row, sum) == 0) {
                    return false;
                }
            }
            return true;
        }

        void priceSets() {
            int[] row = new int[MOST_THINGS];
            boolean free = starts[COST_LINE] == ends[COST_LINE];
            for (int set = 0; set < sets(); set++) {
                for (int t = 0; t < things; t++) {
                    row[t] = set >> t & 1;
                }
                costs[set] = free ? 1 : Math.max(0, value(COST_LINE, row, Integer.bitCount(set)));
            }
        }

        private int value(int line, int[] row, int whole) {
            int top = 0;
            stack[0] = 0;
            for (int i = starts[line]; i < ends[line]; i++) {
                int code = codes[i];
                if (code >= WHOLE) {
                    if (top < STACK) {
                        stack[top] = operand(code, row, whole);
                        top++;
                    }
                } else if (code == NOT) {
                    if (top >= 1) {
                        stack[top - 1] = truth(stack[top - 1] == 0);
                    }
                } else if (top >= 2) {
                    top--;
                    stack[top - 1] = joined(code, stack[top - 1], stack[top]);
                }
            }
            return stack[0];
        }

        private static int operand(int code, int[] row, int whole) {
            if (code >= NUMBER) {
                return code - NUMBER;
            }
            int thing = code - THING;
            return thing >= 0 && thing < row.length ? row[thing] : whole;
        }

        private static int joined(int code, int a, int b) {
            switch (code) {
                case AND: return truth(a != 0 && b != 0);
                case OR: return truth(a != 0 || b != 0);
                case LESS: return truth(a < b);
                case EQUAL: return truth(a == b);
                case PLUS: return a + b;
                case MINUS: return a - b;
                default: return a * b;
            }
        }

        private static int truth(boolean so) {
            return so ? 1 : 0;
        }
    }

    /** The LISTS of the WEIGHTS that MAY be, each once, numbered in the order of their least WEIGHTS. */
    private static final class Lists {
        private static final long SPREAD = 0x9e3779b97f4a7c15L;
        private static final int SPREAD_SHIFT = 40;
        private static final int SLOT_DOUBLINGS = 16;
        private static final int HALF_SETS = 8;

        private final Tower tower;
        private final int[] row;
        private final int[] sums;
        private final int[] highSums;
        private long[] lists;
        private int[] shares;
        private int[] numbers;
        private int[] spare;
        private int[] slots;
        private int[] lowBlocks;
        private int slotCount;
        private int size;
        private int allowed;

        Lists(Tower tower) {
            this.tower = tower;
            row = new int[Tower.MOST_THINGS];
            sums = new int[Sets.ALL];
            highSums = new int[HALF_SETS];
            lists = new long[1];
            shares = new int[1];
            numbers = new int[1];
            spare = new int[1];
            slots = new int[2];
            lowBlocks = new int[1];
        }

        int size() {
            return size;
        }

        int allowed() {
            return allowed;
        }

        int room() {
            return lists.length;
        }

        long at(int number) {
            return number >= 0 && number < size ? lists[number] : 0L;
        }

        /** By how many WEIGHTS that MAY be it is this LIST. */
        int share(int number) {
            return number >= 0 && number < size ? shares[number] : 0;
        }

        /** Which LIST it is by these WEIGHTS; NONE: they may not be. */
        int numberOf(int weights) {
            return weights >= 0 && weights < numbers.length ? numbers[weights] : NONE;
        }

        /** A row to work on, as long as there may be LISTS; what it holds is gone with the next call. */
        int[] spare() {
            return spare;
        }

        long listOf(int weights) {
            int number = numberOf(weights);
            if (number >= 0) {
                return at(number);
            }
            weigh(weights);
            long ringing = 0L;
            for (int set = 0; set < tower.sets(); set++) {
                if (sums[set] >= tower.bar()) {
                    ringing |= 1L << set;
                }
            }
            return ringing;
        }

        /** Weighs each SET, for weightOf. */
        void weigh(int weights) {
            tower.spread(weights, row);
            sums[0] = 0;
            for (int t = 0; t < tower.things(); t++) {
                int half = 1 << t;
                for (int set = 0; set < half; set++) {
                    sums[half + set] = sums[set] + row[t];
                }
            }
        }

        int weightOf(int set) {
            return set >= 0 && set < sums.length ? sums[set] : 0;
        }

        int weightsAs(long rang, long silent) {
            int found = 0;
            for (int i = 0; i < size; i++) {
                if ((lists[i] & silent) == 0L && (~lists[i] & rang) == 0L) {
                    found += shares[i];
                }
            }
            return found;
        }

        /** The THINGS are parted in two halves, so that a LIST is put together from blocks made once. */
        void build() {
            int all = tower.all();
            makeRoom(all);
            size = 0;
            allowed = 0;
            int lowThings = tower.things() / 2;
            int lows = makeLowBlocks(lowThings);
            Arrays.fill(row, 0);
            int sum = 0;
            int low = 0;
            for (int weights = 0; weights < all; weights++) {
                if (low == 0) {
                    weighHigh(lowThings);
                }
                numbers[weights] = NONE;
                if (tower.permits(row, sum)) {
                    numbers[weights] = enter(joinBlocks(low, lowThings));
                    allowed++;
                }
                sum += tower.step(row);
                low = low + 1 < lows ? low + 1 : 0;
            }
        }

        private void makeRoom(int all) {
            if (all > lists.length) {
                int length = Math.min(Math.max(all, 2 * lists.length), Tower.MOST_WEIGHTS);
                lists = new long[length];
                shares = new int[length];
                numbers = new int[length];
                spare = new int[length];
            }
            slotCount = 2;
            for (int i = 0; i < SLOT_DOUBLINGS && slotCount < 2 * all; i++) {
                slotCount *= 2;
            }
            if (slotCount > slots.length) {
                slots = new int[slotCount];
            }
            Arrays.fill(slots, NONE);
        }

        /** For each number of the low THINGS and each bar: which SETS of these come to it. */
        private int makeLowBlocks(int lowThings) {
            int lows = 1;
            for (int t = 0; t < lowThings; t++) {
                lows *= tower.most() + 1;
            }
            int bars = tower.bar() + 1;
            if (lows * bars > lowBlocks.length) {
                lowBlocks = new int[Math.max(lows * bars, 2 * lowBlocks.length)];
            }
            for (int low = 0; low < lows; low++) {
                weigh(low);
                for (int bar = 0; bar < bars; bar++) {
                    int block = 0;
                    for (int set = 0; set < 1 << lowThings; set++) {
                        if (sums[set] >= bar) {
                            block |= 1 << set;
                        }
                    }
                    lowBlocks[low * bars + bar] = block;
                }
            }
            return lows;
        }

        private void weighHigh(int lowThings) {
            for (int high = 0; high < 1 << (tower.things() - lowThings); high++) {
                highSums[high] = Tower.sumOf(high << lowThings, row);
            }
        }

        private long joinBlocks(int low, int lowThings) {
            int start = low * (tower.bar() + 1);
            int width = 1 << lowThings;
            long joined = 0L;
            for (int high = 0; high < 1 << (tower.things() - lowThings); high++) {
                int lack = Math.max(0, tower.bar() - highSums[high]);
                joined |= (long) lowBlocks[start + lack] << (high * width);
            }
            return joined;
        }

        private int enter(long list) {
            int slot = (int) (list * SPREAD >>> SPREAD_SHIFT) & (slotCount - 1);
            for (int i = 0; i < slotCount; i++) {
                int number = slots[slot];
                if (number < 0) {
                    slots[slot] = size;
                    lists[size] = list;
                    shares[size] = 1;
                    size++;
                    return size - 1;
                }
                if (lists[number] == list) {
                    shares[number]++;
                    return number;
                }
                slot = slot + 1 & slotCount - 1;
            }
            return NONE;
        }
    }

    /** TRIALS, HINTS and MARKS; its age tells the others when what they know of it is old. */
    private static final class Book {
        static final int MOST_TRIALS = 60;
        static final int MARKS = 4;
        private static final int MOST_HINTS = 8;

        private final int[] sets;
        private final boolean[] rangs;
        private final int[] hintSizes;
        private final int[] hintSets;
        private final int[] markTrials;
        private final int[] markHints;
        private final int[] markTimes;
        private int trials;
        private int hints;
        private int time;
        private int age;

        Book() {
            sets = new int[MOST_TRIALS];
            rangs = new boolean[MOST_TRIALS];
            hintSizes = new int[MOST_HINTS];
            hintSets = new int[MOST_HINTS];
            markTrials = new int[MARKS];
            markHints = new int[MARKS];
            markTimes = new int[MARKS];
        }

        int trials() {
            return trials;
        }

        int hints() {
            return hints;
        }

        int age() {
            return age;
        }

        boolean hasTrial(int trial) {
            return trial >= 0 && trial < trials;
        }

        int setAt(int trial) {
            return hasTrial(trial) ? sets[trial] : 0;
        }

        boolean rangAt(int trial) {
            return hasTrial(trial) && rangs[trial];
        }

        void forget() {
            trials = 0;
            hints = 0;
            Arrays.fill(markTimes, 0);
            age++;
        }

        int addTrial(int set, boolean rang) {
            if (trials >= MOST_TRIALS) {
                return NONE;
            }
            sets[trials] = set;
            rangs[trials] = rang;
            trials++;
            age++;
            return trials - 1;
        }

        int addHint(int size, int ringing) {
            if (hints >= MOST_HINTS) {
                return NONE;
            }
            hintSizes[hints] = size;
            hintSets[hints] = ringing;
            hints++;
            age++;
            return hints - 1;
        }

        /** A MARK's time is 0 as long as nothing is on it. */
        boolean layMark(int mark) {
            time++;
            markTimes[mark] = time;
            markTrials[mark] = trials;
            markHints[mark] = hints;
            return true;
        }

        boolean goBack(int mark) {
            if (markTimes[mark] == 0) {
                return false;
            }
            trials = markTrials[mark];
            hints = markHints[mark];
            for (int i = 0; i < MARKS; i++) {
                if (markTimes[i] > markTimes[mark]) {
                    markTimes[i] = 0;
                }
            }
            age++;
            return true;
        }

        int ringing() {
            int sum = 0;
            for (int i = 0; i < trials; i++) {
                if (rangs[i]) {
                    sum++;
                }
            }
            return sum;
        }

        /** The SETS of which it was told that they RANG (or not), if the bell is late by so many TRIALS. */
        long setsTold(boolean rang, int lag) {
            long told = 0L;
            for (int i = lag; i < trials; i++) {
                if (rangs[i] == rang) {
                    told |= 1L << sets[i - lag];
                }
            }
            return told;
        }

        boolean hintsHold(long list) {
            for (int i = 0; i < hints; i++) {
                if (Long.bitCount(list & Sets.ofSize(hintSizes[i])) != hintSets[i]) {
                    return false;
                }
            }
            return true;
        }
    }

    /** What is LEFT; refresh first, then ask. */
    private static final class Rest {
        private final Lists lists;
        private final Book book;
        private final int[] tally;
        private boolean[] kept;
        private int[] row;
        private int size;
        private int weights;
        private long some;
        private long every;
        private int age;

        Rest(Lists lists, Book book) {
            this.lists = lists;
            this.book = book;
            tally = new int[Tower.GREATEST_MOST + 1];
            kept = new boolean[1];
            row = new int[1];
            age = NONE;
        }

        void refresh() {
            if (age == book.age()) {
                return;
            }
            age = book.age();
            if (lists.room() > row.length) {
                row = new int[lists.room()];
                kept = new boolean[lists.room()];
            }
            long rang = book.setsTold(true, 0);
            long silent = book.setsTold(false, 0);
            size = 0;
            weights = 0;
            some = 0L;
            every = -1L;
            for (int i = 0; i < lists.size(); i++) {
                long list = lists.at(i);
                kept[i] = (list & silent) == 0L && (~list & rang) == 0L && book.hintsHold(list);
                if (kept[i]) {
                    keep(i, list);
                }
            }
        }

        private void keep(int number, long list) {
            row[size] = number;
            size++;
            weights += lists.share(number);
            some |= list;
            every &= list;
        }

        int size() {
            return size;
        }

        int weights() {
            return weights;
        }

        long some() {
            return some;
        }

        long every() {
            return every;
        }

        /** The numbers of the LISTS LEFT, as many as size. */
        int[] row() {
            return row;
        }

        long listAt(int i) {
            return lists.at(row[i]);
        }

        boolean holds(int hidden) {
            int number = lists.numberOf(hidden);
            return number >= 0 && kept[number];
        }

        /** LISTS are numbered in the order of their least WEIGHTS, so the first LIST has the least. */
        int leastWeights() {
            if (size == 0) {
                return NONE;
            }
            for (int i = 0; i < lists.room(); i++) {
                if (lists.numberOf(i) == row[0]) {
                    return i;
                }
            }
            return NONE;
        }

        int weightsRinging(int set) {
            int sum = 0;
            for (int i = 0; i < size; i++) {
                if (Sets.has(listAt(i), set)) {
                    sum += lists.share(row[i]);
                }
            }
            return sum;
        }

        int fewestRinging() {
            int least = Sets.ALL;
            for (int i = 0; i < size; i++) {
                least = Math.min(least, Long.bitCount(listAt(i)));
            }
            return least;
        }

        int mostRinging() {
            int greatest = 0;
            for (int i = 0; i < size; i++) {
                greatest = Math.max(greatest, Long.bitCount(listAt(i)));
            }
            return greatest;
        }

        int listsRinging(int sets) {
            int sum = 0;
            for (int i = 0; i < size; i++) {
                if (Long.bitCount(listAt(i)) == sets) {
                    sum++;
                }
            }
            return sum;
        }

        /** Counts by how many WEIGHTS LEFT the THING weighs how much. */
        void countWeightsOf(int thing, Tower tower) {
            Arrays.fill(tally, 0);
            int base = Math.max(tower.most() + 1, 1);
            int unit = 1;
            for (int t = 0; t < thing; t++) {
                unit *= base;
            }
            int all = tower.all();
            for (int i = 0; i < all && unit > 0; i++) {
                if (holds(i)) {
                    tally[i / unit % base]++;
                }
            }
        }

        int likeliest() {
            int best = 0;
            for (int i = 1; i < tally.length; i++) {
                if (tally[i] > tally[best]) {
                    best = i;
                }
            }
            return best;
        }

        int lightest() {
            for (int i = 0; i < tally.length; i++) {
                if (tally[i] > 0) {
                    return i;
                }
            }
            return NONE;
        }

        int heaviest() {
            for (int i = tally.length - 1; i >= 0; i--) {
                if (tally[i] > 0) {
                    return i;
                }
            }
            return NONE;
        }
    }

    /** NEXT, and the RUNS that it makes. What is dear is kept till the BOOK changes. */
    private static final class Chooser {
        private static final int STILL = 1;
        private static final int CHEAP = 2;
        private static final int WAYS = 3;
        // Counts go up to 16,384, which takes 15 bits.
        private static final int PLANES = 15;
        // A tree with 16,384 leaves has fewer knots than this.
        private static final int KNOTS = 40000;

        private final Tower tower;
        private final Lists lists;
        private final Book book;
        private final Rest rest;
        private final long[] planes;
        private int planesUsed;
        private final int[] froms;
        private final int[] tos;
        private final int[] depths;
        private final int[] worsts;
        private final int[] togethers;
        private final int[] ages;
        private final int[] runSets;
        private int hidden;
        private int hiddenWay;
        private int hiddenAge;
        private int made;
        private int rang;
        private int paid;

        Chooser(Tower tower, Lists lists, Book book, Rest rest) {
            this.tower = tower;
            this.lists = lists;
            this.book = book;
            this.rest = rest;
            planes = new long[PLANES];
            froms = new int[Book.MOST_TRIALS + 2];
            tos = new int[Book.MOST_TRIALS + 2];
            depths = new int[Book.MOST_TRIALS + 2];
            worsts = new int[WAYS];
            togethers = new int[WAYS];
            ages = new int[WAYS];
            Arrays.fill(ages, NONE);
            runSets = new int[Book.MOST_TRIALS];
            hiddenAge = NONE;
        }

        static boolean isWay(int way) {
            return way >= 0 && way < WAYS;
        }

        /** NEXT by a way, if the LISTS from .. to of the row are those LEFT. */
        int pick(int[] row, int from, int to, int way) {
            Arrays.fill(planes, 0L);
            long some = 0L;
            long every = -1L;
            int all = 0;
            for (int i = from; i < to; i++) {
                long list = lists.at(row[i]);
                some |= list;
                every &= list;
                int times = way == STILL ? lists.share(row[i]) : 1;
                addTimes(list, times);
                all += times;
            }
            planesUsed = bitsOf(all);
            long parting = some & ~every;
            return way == STILL ? stillest(parting) : evenest(parting, all, way == CHEAP);
        }

        private static int bitsOf(int number) {
            int bits = 0;
            for (int i = 0; i < PLANES; i++) {
                if (number >> i != 0) {
                    bits = i + 1;
                }
            }
            return bits;
        }

        private void addTimes(long list, int times) {
            for (int plane = 0; plane < PLANES && times >> plane != 0; plane++) {
                if ((times >> plane & 1) != 0) {
                    Sets.addTo(planes, list, plane);
                }
            }
        }

        private int stillest(long parting) {
            int best = NONE;
            int least = 0;
            for (int set = 0; set < tower.sets(); set++) {
                if (Sets.has(parting, set)) {
                    int ringing = Sets.counted(planes, planesUsed, set);
                    if (best == NONE || ringing < least) {
                        best = set;
                        least = ringing;
                    }
                }
            }
            return best;
        }

        private int evenest(long parting, int size, boolean cheap) {
            int best = NONE;
            int leastCost = 0;
            int least = 0;
            for (int set = 0; set < tower.sets(); set++) {
                if (Sets.has(parting, set)) {
                    int cost = cheap ? tower.costOf(set) : 0;
                    int ringing = Sets.counted(planes, planesUsed, set);
                    int more = Math.max(ringing, size - ringing);
                    if (best == NONE || cost < leastCost || cost == leastCost && more < least) {
                        best = set;
                        leastCost = cost;
                        least = more;
                    }
                }
            }
            return best;
        }

        /** Puts the LISTS that don't RING the SET first; tells where the others begin. */
        private int partRow(int[] row, int from, int to, int set) {
            int middle = from;
            for (int i = from; i < to; i++) {
                int number = row[i];
                if (!Sets.has(lists.at(number), set)) {
                    row[i] = row[middle];
                    row[middle] = number;
                    middle++;
                }
            }
            return middle;
        }

        private int[] copyOfRest() {
            int[] row = lists.spare();
            System.arraycopy(rest.row(), 0, row, 0, rest.size());
            return row;
        }

        /** RUN of HIDDEN WEIGHTS, which must be LEFT. */
        void hide(int weights, int way) {
            if (hiddenAge == book.age() && hidden == weights && hiddenWay == way) {
                return;
            }
            hiddenAge = book.age();
            hidden = weights;
            hiddenWay = way;
            made = 0;
            rang = 0;
            paid = 0;
            long list = lists.listOf(weights);
            int[] row = copyOfRest();
            int from = 0;
            int to = rest.size();
            for (int i = 0; i < Book.MOST_TRIALS && to - from > 1; i++) {
                int set = pick(row, from, to, way);
                if (set == NONE) {
                    return;
                }
                int middle = partRow(row, from, to, set);
                boolean rings = Sets.has(list, set);
                from = rings ? middle : from;
                to = rings ? to : middle;
                runSets[made] = set;
                made++;
                rang += rings ? 1 : 0;
                paid += tower.costOf(set);
            }
        }

        int made() {
            return made;
        }

        int rang() {
            return rang;
        }

        int paid() {
            return paid;
        }

        int setAt(int i) {
            return i >= 0 && i < made ? runSets[i] : NONE;
        }

        /** All RUNS at once: what one SET parts goes on in two, so each knot is worked out one time. */
        void tryAll(int way) {
            if (ages[way] == book.age()) {
                return;
            }
            ages[way] = book.age();
            worsts[way] = 0;
            togethers[way] = 0;
            int[] row = copyOfRest();
            int top = put(0, 0, rest.size(), 0);
            for (int i = 0; i < KNOTS && top > 0; i++) {
                top--;
                int from = froms[top];
                int to = tos[top];
                int depth = depths[top];
                int set = NONE;
                if (to - from > 1 && depth < Book.MOST_TRIALS) {
                    set = pick(row, from, to, way);
                }
                if (set == NONE) {
                    endRuns(row, from, to, depth, way);
                } else {
                    int middle = partRow(row, from, to, set);
                    top = put(top, from, middle, depth + 1);
                    top = put(top, middle, to, depth + 1);
                }
            }
        }

        /** One waits at each depth, and two at the deepest: the rows have room for them. */
        private int put(int top, int from, int to, int depth) {
            if (top >= froms.length) {
                return top;
            }
            froms[top] = from;
            tos[top] = to;
            depths[top] = depth;
            return top + 1;
        }

        private void endRuns(int[] row, int from, int to, int depth, int way) {
            worsts[way] = Math.max(worsts[way], depth);
            for (int i = from; i < to; i++) {
                togethers[way] += depth * lists.share(row[i]);
            }
        }

        int worstBy(int way) {
            return worsts[way];
        }

        int togetherBy(int way) {
            return togethers[way];
        }
    }

    /** Questions that a LIST answers, and the FEWEST TRIALS till those LEFT answer alike. */
    private static final class Planner {
        static final int MOST_LISTS = 12;
        static final int LIST = 0;
        static final int MATTER = 1;
        static final int ALIKE = 2;
        static final int RINGS = 3;
        static final int HOW_MANY = 4;

        private final Lists lists;
        private final Rest rest;
        private final int[] answers;
        private final int[] groups;
        private final int[] splits;
        private final int[] splitSets;
        private final byte[] depths;
        private int splitCount;
        private int trials;
        private int firstSet;

        Planner(Lists lists, Rest rest) {
            this.lists = lists;
            this.rest = rest;
            answers = new int[MOST_LISTS];
            groups = new int[MOST_LISTS];
            splits = new int[Sets.ALL];
            splitSets = new int[Sets.ALL];
            depths = new byte[1 << MOST_LISTS];
        }

        private static int answer(int question, int which, long list, int number) {
            switch (question) {
                case LIST: return number;
                case MATTER: return Sets.swung(list, which) != 0L ? 1 : 0;
                case ALIKE:
                    return Sets.swappable(list, which / Tower.MOST_THINGS, which % Tower.MOST_THINGS) ? 1 : 0;
                case RINGS: return Sets.has(list, which) ? 1 : 0;
                default: return Long.bitCount(list);
            }
        }

        /** For a question of yes (1) or no (0): 1 or 0 if all that are LEFT answer so, else 2. */
        int allOrNone(int question, int which) {
            int yes = 0;
            for (int i = 0; i < rest.size(); i++) {
                yes += answer(question, which, rest.listAt(i), i);
            }
            if (yes == rest.size()) {
                return 1;
            }
            return yes == 0 ? 0 : 2;
        }

        int trials() {
            return trials;
        }

        int firstSet() {
            return firstSet;
        }

        /** Some of the LISTS LEFT (12 at most) are bits of a number here. */
        void plan(int question, int which) {
            int size = Math.min(rest.size(), MOST_LISTS);
            int all = (1 << size) - 1;
            groupAnswers(question, which, size);
            findSplits(size);
            Arrays.fill(depths, 0, 1 << size, (byte) NONE);
            trials = depthOf(all, 0);
            firstSet = NONE;
            for (int i = 0; i < splitCount && trials > 0 && firstSet == NONE; i++) {
                if (depthBy(i, all, 0, trials + 1) == trials) {
                    firstSet = splitSets[i];
                }
            }
        }

        private void groupAnswers(int question, int which, int size) {
            for (int i = 0; i < size; i++) {
                answers[i] = answer(question, which, rest.listAt(i), i);
            }
            for (int i = 0; i < size; i++) {
                groups[i] = 0;
                for (int j = 0; j < size; j++) {
                    if (answers[j] == answers[i]) {
                        groups[i] |= 1 << j;
                    }
                }
            }
        }

        /** SETS that part the LISTS in the same two heaps are told once, by the least of them. */
        private void findSplits(int size) {
            int all = (1 << size) - 1;
            splitCount = 0;
            for (int set = 0; set < Sets.ALL; set++) {
                int ringing = 0;
                for (int i = 0; i < size; i++) {
                    if (Sets.has(rest.listAt(i), set)) {
                        ringing |= 1 << i;
                    }
                }
                if (ringing != 0 && ringing != all && isNewSplit(ringing, all)) {
                    splits[splitCount] = ringing;
                    splitSets[splitCount] = set;
                    splitCount++;
                }
            }
        }

        private boolean isNewSplit(int ringing, int all) {
            for (int i = 0; i < splitCount; i++) {
                if (splits[i] == ringing || splits[i] == (all & ~ringing)) {
                    return false;
                }
            }
            return true;
        }

        /** Each level has a LIST less at least, so there are no more levels than LISTS. */
        private int depthOf(int some, int level) {
            if (some == 0 || level > MOST_LISTS) {
                return 0;
            }
            if (depths[some] >= 0) {
                return depths[some];
            }
            int best = 0;
            if (!isAlike(some)) {
                best = MOST_LISTS;
                for (int i = 0; i < splitCount && best > 1; i++) {
                    best = Math.min(best, depthBy(i, some, level, best));
                }
            }
            depths[some] = (byte) best;
            return best;
        }

        private boolean isAlike(int some) {
            for (int i = 0; i < MOST_LISTS; i++) {
                if ((some >> i & 1) != 0) {
                    return (some & ~groups[i]) == 0;
                }
            }
            return true;
        }

        /** The depth if this SET comes first; the bound (or more) if it is no better than that. */
        private int depthBy(int split, int some, int level, int bound) {
            int ringing = some & splits[split];
            int silent = some & ~splits[split];
            if (ringing == 0 || silent == 0) {
                return bound;
            }
            int one = 1 + depthOf(ringing, level + 1);
            if (one >= bound) {
                return bound;
            }
            return Math.max(one, 1 + depthOf(silent, level + 1));
        }
    }

    /** Least WEIGHTS and bar for what RINGS and what does not; or TRIALS that can't be together. */
    private static final class Fit {
        static final int MOST_PAIRS = 3;

        private final Tower tower;
        private final Book book;
        private final int[] row;
        private final int[] ringers;
        private final int[] silents;
        private int ringerCount;
        private int silentCount;
        private boolean found;
        private int leastSum;
        private int leastBar;
        private int leastNumber;

        private final long[] holders;
        private final int[] ringTrials;
        private final int[] chosen;
        private int ringTrialCount;
        private int pairs;

        Fit(Tower tower, Book book) {
            this.tower = tower;
            this.book = book;
            row = new int[Tower.MOST_THINGS];
            ringers = new int[Sets.ALL];
            silents = new int[Sets.ALL];
            holders = new long[Sets.ALL];
            ringTrials = new int[Book.MOST_TRIALS];
            chosen = new int[2 * MOST_PAIRS];
        }

        /** If the least ones that should RING do, all do; if the greatest others don't, none does. */
        void seek(long rang, long silent) {
            ringerCount = Sets.spread(Sets.leastOf(rang), ringers);
            silentCount = Sets.spread(Sets.greatestOf(silent), silents);
            found = false;
            Arrays.fill(row, 0);
            int sum = 0;
            int all = tower.all();
            for (int number = 0; number < all; number++) {
                if (!found || sum <= leastSum) {
                    tryRow(number, sum);
                }
                sum += tower.step(row);
            }
        }

        private void tryRow(int number, int sum) {
            int bar = leastBarOfRow();
            if (bar == NONE) {
                return;
            }
            if (!found || sum < leastSum || bar < leastBar) {
                found = true;
                leastSum = sum;
                leastBar = bar;
                leastNumber = number;
            }
        }

        private int leastBarOfRow() {
            int heaviest = 0;
            for (int i = 0; i < silentCount; i++) {
                heaviest = Math.max(heaviest, Tower.sumOf(silents[i], row));
            }
            for (int i = 0; i < ringerCount; i++) {
                if (Tower.sumOf(ringers[i], row) <= heaviest) {
                    return NONE;
                }
            }
            return heaviest + 1;
        }

        int answer(int what) {
            if (!found) {
                return NONE;
            }
            switch (what) {
                case 0: return leastSum;
                case 1: return leastBar;
                default: return leastNumber;
            }
        }

        /** Pairs as asked for rule out all WEIGHTS, so where there are such SMALLEST has none. */
        void seekTrade() {
            gatherTrials();
            pairs = 0;
            for (int size = 1; size <= MOST_PAIRS && pairs == 0; size++) {
                if (chooseRinging(size, size, 0, 0, 0, 0)) {
                    pairs = size;
                }
            }
        }

        /** Of TRIALS told alike of one SET only the first can be among the first pairs. */
        private void gatherTrials() {
            long seen = 0L;
            long seenSilent = 0L;
            ringTrialCount = 0;
            Arrays.fill(holders, 0L);
            for (int i = 0; i < book.trials(); i++) {
                int set = book.setAt(i);
                if (book.rangAt(i)) {
                    if (!Sets.has(seen, set)) {
                        ringTrials[ringTrialCount] = i;
                        ringTrialCount++;
                    }
                    seen |= 1L << set;
                } else {
                    if (!Sets.has(seenSilent, set)) {
                        addHolder(set, i);
                    }
                    seenSilent |= 1L << set;
                }
            }
        }

        /** Of each SET: which of the silent TRIALS have all its THINGS, as bits. */
        private void addHolder(int set, int trial) {
            for (int held = 0; held < Sets.ALL; held++) {
                if ((held & ~set) == 0) {
                    holders[held] |= 1L << trial;
                }
            }
        }

        /** one, two, three: the THINGS that are in at least so many of those chosen so far. */
        private boolean chooseRinging(int size, int open, int from, int one, int two, int three) {
            if (open <= 0) {
                return chooseSilent(size, size, 0, one, two, three);
            }
            for (int i = from; i < ringTrialCount; i++) {
                int trial = ringTrials[i];
                int set = book.setAt(trial);
                chosen[size - open] = trial;
                if (chooseRinging(size, open - 1, i, one | set, two | one & set, three | two & set)) {
                    return true;
                }
            }
            return false;
        }

        /** one, two, three: the THINGS that so many, at least, of those still open must have. */
        private boolean chooseSilent(int size, int open, int from, int one, int two, int three) {
            if (open <= 0) {
                return true;
            }
            int inAll = open == 1 ? one : open == 2 ? two : three;
            long fitting = holders[inAll & Sets.ALL - 1];
            for (int trial = from; trial < book.trials(); trial++) {
                if (Sets.has(fitting, trial)) {
                    int set = book.setAt(trial);
                    chosen[MOST_PAIRS + size - open] = trial;
                    if (chooseSilent(size, open - 1, trial, one & ~set | two & set,
                            two & ~set | three & set, three & ~set)) {
                        return true;
                    }
                }
            }
            return false;
        }

        int trade(int what) {
            if (pairs == 0) {
                return NONE;
            }
            if (what == 0) {
                return pairs;
            }
            int place = what - 1;
            return place >= 0 && place < chosen.length && place % MOST_PAIRS < pairs ? chosen[place] : NONE;
        }
    }

    /** What may be off with the BOOK: TRIALS told wrong, a THING that grew, two bells, a late one. */
    private static final class Doubt {
        static final int MOST_LATE = 5;
        private static final int MOST_GROWTH = 5;
        // A SET's TRIALS are 60 at most, which takes 6 bits.
        private static final int PLANES = 6;

        private final Tower tower;
        private final Lists lists;
        private final Book book;
        private final long[] rang;
        private final long[] silent;
        private final int[] weightsByWrongs;
        private final int[] row;
        private int fewestWrong;
        private long some;
        private long every;
        private int age;
        private int growthAge;
        private int growthBy;
        private int growthFrom;
        private int growthThing;

        Doubt(Tower tower, Lists lists, Book book) {
            this.tower = tower;
            this.lists = lists;
            this.book = book;
            rang = new long[PLANES];
            silent = new long[PLANES];
            weightsByWrongs = new int[Book.MOST_TRIALS + 1];
            row = new int[Tower.MOST_THINGS];
            age = NONE;
            growthAge = NONE;
        }

        void refresh() {
            if (age == book.age()) {
                return;
            }
            age = book.age();
            Arrays.fill(rang, 0L);
            Arrays.fill(silent, 0L);
            for (int i = 0; i < book.trials(); i++) {
                Sets.addTo(book.rangAt(i) ? rang : silent, 1L << book.setAt(i), 0);
            }
            Arrays.fill(weightsByWrongs, 0);
            fewestWrong = Book.MOST_TRIALS;
            some = 0L;
            every = -1L;
            for (int i = 0; i < lists.size(); i++) {
                note(lists.at(i), lists.share(i));
            }
        }

        private void note(long list, int share) {
            int wrongs = 0;
            for (int plane = 0; plane < PLANES; plane++) {
                int off = Long.bitCount(rang[plane] & ~list) + Long.bitCount(silent[plane] & list);
                wrongs += off << plane;
            }
            if (wrongs > Book.MOST_TRIALS) {
                return;
            }
            weightsByWrongs[wrongs] += share;
            if (wrongs < fewestWrong) {
                fewestWrong = wrongs;
                some = 0L;
                every = -1L;
            }
            if (wrongs == fewestWrong) {
                some |= list;
                every &= list;
            }
        }

        int fewestWrong() {
            return fewestWrong;
        }

        int weightsWith(int wrongs) {
            int sum = 0;
            for (int i = 0; i <= wrongs && i < weightsByWrongs.length; i++) {
                sum += weightsByWrongs[i];
            }
            return sum;
        }

        boolean alwaysWrong(int trial) {
            int set = book.setAt(trial);
            return book.rangAt(trial) ? !Sets.has(some, set) : Sets.has(every, set);
        }

        /** The TRIAL from which on it grew is, of given WEIGHTS, just the first that is not as told. */
        void seekGrowth() {
            if (growthAge == book.age()) {
                return;
            }
            growthAge = book.age();
            growthBy = NONE;
            int all = tower.all();
            for (int weights = 0; weights < all; weights++) {
                int number = lists.numberOf(weights);
                if (number >= 0) {
                    int from = firstWrong(lists.at(number));
                    if (from == NONE) {
                        growthBy = NONE;
                        return;
                    }
                    if (book.rangAt(from) && (growthBy != 1 || from >= growthFrom)) {
                        tower.spread(weights, row);
                        tryGrowths(from);
                    }
                }
            }
        }

        private int firstWrong(long list) {
            for (int i = 0; i < book.trials(); i++) {
                if (Sets.has(list, book.setAt(i)) != book.rangAt(i)) {
                    return i;
                }
            }
            return NONE;
        }

        private void tryGrowths(int from) {
            int set = book.setAt(from);
            int lack = tower.bar() - Tower.sumOf(set, row);
            int greatest = growthBy == NONE ? MOST_GROWTH : growthBy;
            for (int by = Math.max(1, lack); by <= greatest; by++) {
                for (int thing = 0; thing < tower.things(); thing++) {
                    if ((set >> thing & 1) != 0 && isBetter(by, from, thing) && holdsGrown(from, thing, by)) {
                        growthBy = by;
                        growthFrom = from;
                        growthThing = thing;
                        return;
                    }
                }
            }
        }

        private boolean isBetter(int by, int from, int thing) {
            if (growthBy == NONE || by != growthBy) {
                return growthBy == NONE || by < growthBy;
            }
            return from != growthFrom ? from > growthFrom : thing < growthThing;
        }

        private boolean holdsGrown(int from, int thing, int by) {
            for (int i = from; i < book.trials(); i++) {
                int set = book.setAt(i);
                int weight = Tower.sumOf(set, row) + (set >> thing & 1) * by;
                if (weight >= tower.bar() != book.rangAt(i)) {
                    return false;
                }
            }
            return true;
        }

        int growth(int what) {
            if (growthBy == NONE) {
                return NONE;
            }
            switch (what) {
                case 0: return growthBy;
                case 1: return growthFrom;
                default: return growthThing;
            }
        }

        /**
         * A LIST that RINGS no more of the told SETS than another one can be left out of a pair. The
         * last ones come first, as their WEIGHTS are greater and they make more others needless.
         */
        int bellsNeeded() {
            long due = book.setsTold(true, 0);
            long quiet = book.setsTold(false, 0);
            if (due == 0L) {
                return 0;
            }
            int[] kept = lists.spare();
            int size = 0;
            for (int i = lists.size() - 1; i >= 0; i--) {
                long list = lists.at(i);
                if ((list & quiet) == 0L) {
                    if ((due & ~list) == 0L) {
                        return 1;
                    }
                    if (!isCovered(list & due, kept, size)) {
                        kept[size] = i;
                        size++;
                    }
                }
            }
            return hasPair(due, kept, size) ? 2 : NONE;
        }

        private boolean isCovered(long part, int[] kept, int size) {
            for (int i = 0; i < size; i++) {
                if ((part & ~lists.at(kept[i])) == 0L) {
                    return true;
                }
            }
            return false;
        }

        private boolean hasPair(long due, int[] kept, int size) {
            for (int i = 0; i < size; i++) {
                long open = due & ~lists.at(kept[i]);
                for (int j = i + 1; j < size; j++) {
                    if ((open & ~lists.at(kept[j])) == 0L) {
                        return true;
                    }
                }
            }
            return false;
        }

        int weightsIfLate(int lag) {
            return lists.weightsAs(book.setsTold(true, lag), book.setsTold(false, lag));
        }

        int bestLag() {
            int best = 0;
            int most = weightsIfLate(0);
            for (int lag = 1; lag <= MOST_LATE; lag++) {
                int weights = weightsIfLate(lag);
                if (weights > most) {
                    most = weights;
                    best = lag;
                }
            }
            return best;
        }
    }

    /** Who decides by told WEIGHTS. */
    private static final class Power {
        private static final int[] FACTORIALS = {1, 1, 2, 6, 24, 120, 720};

        private final Tower tower;
        private final Lists lists;

        Power(Tower tower, Lists lists) {
            this.tower = tower;
            this.lists = lists;
        }

        private static int factorial(int n) {
            return n >= 0 && n < FACTORIALS.length ? FACTORIALS[n] : 1;
        }

        int orders() {
            return factorial(tower.things());
        }

        /** Those ahead of the THING make a SET that it swings; they, and those behind, lie in any order. */
        int ordersDecided(int weights, int thing) {
            long swung = Sets.swung(lists.listOf(weights), thing);
            int sum = 0;
            for (int ahead = 0; ahead < tower.things(); ahead++) {
                int orders = factorial(ahead) * factorial(tower.things() - 1 - ahead);
                sum += Long.bitCount(swung & Sets.ofSize(ahead)) * orders;
            }
            return sum;
        }

        /** HEAVY or LIGHT; its weight can be asked for behind it. */
        int nearest(int weights, boolean light) {
            lists.weigh(weights);
            int best = NONE;
            for (int set = 0; set < tower.sets(); set++) {
                boolean rings = lists.weightOf(set) >= tower.bar();
                if (rings == light && (best == NONE || isNearer(set, best, light))) {
                    best = set;
                }
            }
            return best;
        }

        private boolean isNearer(int set, int best, boolean light) {
            int weight = lists.weightOf(set);
            int bestWeight = lists.weightOf(best);
            if (weight != bestWeight) {
                return light ? weight < bestWeight : weight > bestWeight;
            }
            return Integer.bitCount(set) < Integer.bitCount(best);
        }

        int weightOf(int set) {
            return lists.weightOf(set);
        }

        int inAllThatRing(int weights) {
            long ringing = lists.listOf(weights);
            int common = tower.sets() - 1;
            for (int set = 0; set < tower.sets(); set++) {
                if (Sets.has(ringing, set)) {
                    common &= set;
                }
            }
            return common;
        }
    }
}
