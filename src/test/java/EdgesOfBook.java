import java.util.function.LongSupplier;

/** The document's parts 2 and 3: WEIGHTS, the BOOK and what is LEFT by it; what to lay on next, and how long it takes. */
final class EdgesOfBook extends Edges {
    /** WEIGHTS 0, 3, 4, 6, 7, 8 and four LISTS: 0 (twice), 8, 12 (twice), 14. */
    private static final String STEEP = TWO + "allow a < b + 1;";
    /** 12 LISTS: WEIGHTS of 0 and 1, each with a LIST of its own. */
    private static final String TWELVE = things(4) + "most 1;bar 1;allow a or b;";
    private static final String THIRTEEN = things(4) + "most 1;bar 1;allow a or b or (c and d);";
    /** By CHEAP each TRIAL tells one LIST apart: 63 would be due for the WEIGHTS 63. */
    private static final String SLOW = things(6) + "most 1;bar 1;cost 6 - size;";

    static void all() {
        weights();
        lists();
        book();
        left();
        knownAnew();
        sure();
        costsOfSets();
        matters();
        next();
        fewest();
        questions();
        runs();
        allRuns();
    }

    private static void weights() {
        says("WEIGHTS: of each THING a whole number from 0 to most; as a number: of thing t times (most + 1) to the t, together.");
        start(TWO + "allow a = 2 and b = 1;");
        for (int w = 0; w < 9; w++) due("may(" + w + ")", x.may(w), bit(w == 5));
        dueAll("beyond", row(x.count(3), x.may(-1), x.may(9)), 9, -1, -1);
        start("");
        dueAll("of no THING", row(x.count(3), x.may(0), x.may(1)), 1, 1, -1);
        start("thing a;thing b;thing c;thing d;most 9;bar 36;");
        dueAll("the greatest", row(x.count(3), x.may(9999), x.may(10000), x.list(9999), x.list(9998)), 10000, 1, -1, 1 << 15, 0);
        start(things(6) + "most 4;bar 4;");
        int unit = 1;
        for (int t = 0; t < 6; t++) {
            long alone = 0;
            for (int s = 0; s < 64; s++) if ((s >> t & 1) == 1) alone |= 1L << s;
            due("list of thing " + t + " alone", x.list(4 * unit), alone);
            due("list of thing " + t + " alone, too light", x.list(3 * unit), 0);
            unit *= 5;
        }

        says("They MAY be if each allow's E is not 0 (a NAME is its WEIGHT, sum all together).");
        start(TWO);
        due("without allow", x.count(4), 9);
        start(TWO + "allow 0;");
        dueAll("none", row(x.count(4), x.count(5), x.left(0), x.may(0), x.may(8)), 0, 0, 0, 0, 0);
        start(TWO + "allow 0 - 1;");
        due("below 0", x.count(4), 9);
        for (int zero = 0; zero < 4; zero++) {
            StringBuilder b = new StringBuilder(TWO);
            for (int i = 0; i < 4; i++) b.append(i == zero ? "allow a = 1;" : "allow 1;");
            start(b.toString());
            dueAll("each of four counts", row(x.count(4), x.may(0), x.may(1), x.may(7)), 3, 0, 1, 1);
        }
        start(TWO + "allow sum = 4;");
        dueAll("sum", row(x.count(4), x.may(8)), 1, 1);
        start("thing a;most 2;allow sum = 2;thing b;");
        dueAll("sum of those told behind it too", row(x.count(4), x.may(2), x.may(4), x.may(6)), 3, 1, 1, 1);
    }

    private static void lists() {
        says("SETS of THINGS are bits; a SET RINGS by WEIGHTS if those of its THINGS come to the bar or more.");
        start("thing a;most 9;bar 9;");
        dueAll("just the bar", row(x.list(8), x.list(9)), 0, 2);
        start("thing a;most 9;bar 8;");
        dueAll("and more", row(x.list(7), x.list(8), x.list(9)), 0, 2, 2);
        start("thing a;most 1;bar 1;");
        dueAll("bar 1", row(x.list(0), x.list(1)), 0, 2);
        start("thing a;thing b;thing c;thing d;most 9;bar 60;");
        dueAll("bar 60 is never come to", row(x.list(9999), x.count(5), x.sure(15)), 0, 1, 0);

        says("A LIST is which SETS RING (of all SETS, the one of none too): as a long, bit S for SET S.");
        start(TWO);
        long[] want = {0, 0, 10, 0, 8, 10, 12, 12, 14};
        for (int w = 0; w < 9; w++) due("list(" + w + ")", x.list(w), want[w]);
        start(things(6) + "most 4;bar 24;");
        dueAll("SET 63", row(x.list(15624), x.list(15623)), Long.MIN_VALUE, 0);
        start(things(6) + "most 4;bar 1;");
        dueAll("all but the SET of none", row(x.list(15624), x.list(0)), -2, 0);
        due("and it is never there", x.odds(0, 0), 0);
    }

    private static void book() {
        says("The BOOK has TRIALS, 60 at most: a SET, RANG or not.");
        start(TWO);
        for (int i = 0; i < 59; i++) due("trial", x.trial(3, true), i);
        due("left", x.left(0), 6);
        due("the 60th", x.trial(1, true), 59);
        dueAll("counts", row(x.left(0), x.count(6), x.count(7)), 3, 60, 60);
        String before = state();
        due("the 61st", x.trial(2, true), -1);
        due("the 61st", x.trial(0, true), -1);
        dueText("state", state(), before);
        start(TWO);
        due("not", x.trial(3, false), 0);
        dueAll("it did not ring", row(x.left(0), x.count(6), x.count(7)), 3, 1, 0);

        says("HINTS, 8 at most: of the SETS with k THINGS just so many RING.");
        start(TWO);
        for (int i = 0; i < 7; i++) due("hint", x.hint(0, 0), i);
        due("left", x.left(0), 9);
        due("the 8th", x.hint(1, 1), 7);
        dueAll("counts", row(x.left(0), x.left(1), x.count(11)), 4, 2, 8);
        before = state();
        due("the 9th", x.hint(1, 0), -1);
        dueText("state", state(), before);
        int[][] counts = {{0, 0, 9}, {0, 1, 0}, {1, 0, 4}, {1, 1, 4}, {1, 2, 1}, {1, 3, 0}, {2, 0, 3}, {2, 1, 6}, {2, 2, 0}, {2, 64, 0}};
        for (int[] c : counts) {
            start(TWO);
            due("hint", x.hint(c[0], c[1]), 0);
            due("left by hint(" + c[0] + ", " + c[1] + ")", x.left(0), c[2]);
        }
        start(things(6) + "most 1;bar 1;");
        due("hint", x.hint(3, 20), 0);
        due("all 20 of three: by four THINGS or more that weigh", x.left(0), 22);
        due("hint", x.hint(6, 1), 1);
        due("hint", x.hint(1, 6), 2);
        dueAll("only the one with all", row(x.left(0), x.left(2)), 1, 63);
    }

    private static void left() {
        says("LEFT are WEIGHTS that MAY be and by which each TRIAL and each HINT is as told; and their LISTS, each once.");
        start(TWO);
        dueAll("without any", row(x.left(0), x.left(1), x.left(2)), 9, 5, 0);
        rang(3);
        dueAll("a TRIAL", row(x.left(0), x.left(1), x.left(2)), 6, 4, 2);
        due("hint", x.hint(1, 1), 0);
        dueAll("and a HINT", row(x.left(0), x.left(1), x.left(2)), 4, 2, 2);
        silent(1);
        dueAll("and a TRIAL", row(x.left(0), x.left(1), x.left(2)), 2, 1, 6);
        due("hint", x.hint(2, 0), 1);
        dueAll("none", row(x.left(0), x.left(1), x.left(2)), 0, 0, -1);
        start(STEEP);
        dueAll("that MAY be", row(x.left(0), x.left(1), x.left(2)), 6, 4, 0);
        rang(3);
        dueAll("that MAY be", row(x.left(0), x.left(1), x.left(2)), 4, 3, 4);
        rang(3);
        silent(3);
        dueAll("a SET that RANG and did not", row(x.left(0), x.left(1), x.left(2)), 0, 0, -1);
        start(TWO + "allow 0;");
        dueAll("none MAY be", row(x.left(0), x.left(1), x.left(2)), 0, 0, -1);
        for (int n = 0; n <= 3; n++) {
            for (int most = 1; most <= 4; most++) {
                start(things(n) + "most " + most + ";bar " + most + ";");
                due("asked first, " + n + " of " + most, x.left(0), (long) Math.pow(most + 1, n));
                due("the least", x.left(2), 0);
            }
        }
    }

    /** Each answer right behind a change, with no other question in between. */
    private static void knownAnew() {
        askAnew("left(0)", () -> x.left(0), 9, 3, 2);
        askAnew("left(1)", () -> x.left(1), 5, 2, 1);
        askAnew("left(2)", () -> x.left(2), 0, 2, 2);
        askAnew("sure(1)", () -> x.sure(1), 2, 1, 1);
        askAnew("sure(2)", () -> x.sure(2), 2, 2, 0);
        askAnew("matters(0)", () -> x.matters(0), 2, 1, 1);
        askAnew("matters(1)", () -> x.matters(1), 2, 2, 0);
        askAnew("alike(0, 1)", () -> x.alike(0, 1), 2, 2, 0);
        for (int way = 0; way < 3; way++) {
            int by = way;
            askAnew("next(" + by + ")", () -> x.next(by), 1, 2, -1);
            askAnew("run(2, " + by + ", 0)", () -> x.run(2, by, 0), 2, 1, 0);
            askAnew("runSet(2, " + by + ", 0)", () -> x.runSet(2, by, 0), 1, 2, -1);
            askAnew("worst(" + by + ")", () -> x.worst(by), 3, 1, 0);
            askAnew("mean(" + by + ", 0)", () -> x.mean(by, 0), 22, 1, 0);
            askAnew("mean(" + by + ", 1)", () -> x.mean(by, 1), 9, 1, 1);
        }
        askAnew("fewest(0)", () -> x.fewest(0), 3, 1, 0);
        askAnew("fewest(1)", () -> x.fewest(1), 1, 2, -1);
        askAnew("fewestFor(3, 2, 0)", () -> x.fewestFor(3, 2, 0), 1, 1, 0);
        askAnew("smallest(0)", () -> x.smallest(0), 0, 1, 1);
        askAnew("wrong(0)", () -> x.wrong(0), 0, 0, 0);
        askAnew("wrong(1)", () -> x.wrong(1), 9, 3, 3);
        askAnew("with(0)", () -> x.with(0), 9, 3, 3);
        askAnew("suspect(0)", () -> x.suspect(0), -1, 0, 0);
        askAnew("bells()", () -> x.bells(), 0, 1, 1);
        askAnew("late(0, 0)", () -> x.late(0, 0), 9, 3, 3);
        askAnew("often(0)", () -> x.often(0), 0, 2, 2);
        askAnew("often(1)", () -> x.often(1), 3, 3, 2);
        askAnew("rings(3)", () -> x.rings(3), 1, 1, 0);
        askAnew("odds(2, 0)", () -> x.odds(2, 0), 1, 1, 0);
        askAnew("odds(2, 1)", () -> x.odds(2, 1), 3, 3, 1);
        askAnew("guess(0, 0)", () -> x.guess(0, 0), 0, 2, 2);
        askAnew("guess(1, 2)", () -> x.guess(1, 2), 2, 2, 1);
        clashAnew("left(0)", () -> x.left(0), 9, 0, 3);
        clashAnew("sure(3)", () -> x.sure(3), 2, -1, 1);
        clashAnew("smallest(0)", () -> x.smallest(0), 0, -1, 1);
        clashAnew("cannot(0)", () -> x.cannot(0), -1, 1, -1);
        clashAnew("cannot(4)", () -> x.cannot(4), -1, 0, -1);
        clashAnew("wrong(0)", () -> x.wrong(0), 0, 1, 0);
        clashAnew("with(0)", () -> x.with(0), 9, 0, 3);
        clashAnew("grown(0)", () -> x.grown(0), -1, 1, -1);
        clashAnew("grown(1)", () -> x.grown(1), -1, 1, -1);
        clashAnew("bells()", () -> x.bells(), 0, -1, 1);
        clashAnew("late(1, 0)", () -> x.late(1, 0), 9, 6, 6);
        toldOtherwise("left(1)", () -> x.left(1), 4, 1);
        toldOtherwise("with(0)", () -> x.with(0), 6, 3);
        toldOtherwise("worst(0)", () -> x.worst(0), 2, 0);
        toldOtherwise("mean(0, 0)", () -> x.mean(0, 0), 2, 0);
        toldOtherwise("runSet(0, 0, 0) or of 2", () -> x.runSet(x.count(7) == 0 ? 0 : 2, 0, 0), 1, -1);
        toldOtherwise("smallest(0)", () -> x.smallest(0), 1, 0);
        toldOtherwise("bells()", () -> x.bells(), 1, 0);
        start(TWO);
        silent(3);
        due("mark", bit(x.mark(0, false)), 1);
        rang(3);
        due("grown(0)", x.grown(0), 1);
        due("back", bit(x.mark(0, true)), 1);
        silent(3);
        due("grown(0) told otherwise", x.grown(0), -1);
    }

    /** SET 3 that RANG and, when that is gone back on, did not: with as many TRIALS as before. */
    private static void toldOtherwise(String call, LongSupplier ask, long rang, long silent) {
        start(TWO);
        due("mark", bit(x.mark(0, false)), 1);
        rang(3);
        due(call, ask.getAsLong(), rang);
        due("back", bit(x.mark(0, true)), 1);
        silent(3);
        due(call + " told otherwise", ask.getAsLong(), silent);
    }

    /** With no TRIAL, with SET 1 that RANG, and with just one SET of one THING that RINGS. */
    private static void askAnew(String call, LongSupplier ask, long first, long tried, long hinted) {
        start(TWO);
        rang(1);
        due(call + " asked for the first time", ask.getAsLong(), tried);
        start(TWO);
        due(call, ask.getAsLong(), first);
        due("mark", bit(x.mark(0, false)), 1);
        rang(1);
        due(call + " behind a TRIAL", ask.getAsLong(), tried);
        due("hint", x.hint(1, 1), 0);
        due(call + " behind a HINT", ask.getAsLong(), hinted);
        due("back", bit(x.mark(0, true)), 1);
        due(call + " gone back", ask.getAsLong(), first);
        rang(1);
        fine(TWO);
        due(call + " by a new TOWER", ask.getAsLong(), first);
    }

    /** With no TRIAL, with SET 3 that did not RING and RANG, and with SETS 3 and 1 that RANG. */
    private static void clashAnew(String call, LongSupplier ask, long first, long clash, long rang) {
        start(TWO);
        silent(3);
        rang(3);
        due(call + " asked for the first time", ask.getAsLong(), clash);
        start(TWO);
        due("mark", bit(x.mark(0, false)), 1);
        silent(3);
        rang(3);
        due(call + " of a clash", ask.getAsLong(), clash);
        due("back", bit(x.mark(0, true)), 1);
        due(call + " gone back", ask.getAsLong(), first);
        rang(3, 1);
        due(call + " told otherwise", ask.getAsLong(), rang);
    }

    private static void sure() {
        says("SURE of a SET: 1 if it RINGS by all that are LEFT, 0 if by none, 2 else (NONE if none is LEFT).");
        start(TWO);
        dueAll("sure", row(x.sure(0), x.sure(1), x.sure(2), x.sure(3)), 0, 2, 2, 2);
        rang(1);
        dueAll("sure", row(x.sure(0), x.sure(1), x.sure(2), x.sure(3)), 0, 1, 2, 1);
        silent(2);
        dueAll("sure", row(x.sure(0), x.sure(1), x.sure(2), x.sure(3)), 0, 1, 0, 1);
        silent(3);
        dueAll("none is LEFT", row(x.sure(0), x.sure(1), x.sure(2), x.sure(3)), -1, -1, -1, -1);
        start(TWO + "allow 0;");
        dueAll("none MAY be", row(x.sure(0), x.sure(3)), -1, -1);
        start(things(6) + "most 4;bar 24;");
        dueAll("SET 63", row(x.sure(62), x.sure(63)), 0, 2);
        rang(63);
        dueAll("SET 63", row(x.sure(62), x.sure(63)), 0, 1);
    }

    private static void costsOfSets() {
        says("COST of a SET: cost's E (a NAME is 1 if it is in it, else 0, size how many there are), 0 if below; 1 without.");
        start(TWO);
        dueAll("without", row(x.cost(0), x.cost(1), x.cost(3)), 1, 1, 1);
        start(TWO + "cost 2 * a + 3 * b;");
        dueAll("names", row(x.cost(0), x.cost(1), x.cost(2), x.cost(3)), 0, 2, 3, 5);
        start("thing a;cost size * 2 - 2;thing b;");
        dueAll("size, below and just 0", row(x.cost(0), x.cost(1), x.cost(2), x.cost(3)), 0, 0, 0, 2);
        start(TWO + "cost 0;");
        dueAll("0", row(x.cost(0), x.cost(3)), 0, 0);
        start(TWO + "cost 0 - 1;");
        dueAll("below", row(x.cost(0), x.cost(3)), 0, 0);
        start(things(6) + "most 1;cost size;");
        for (int s = 0; s < 64; s++) due("cost(" + s + ")", x.cost(s), Integer.bitCount(s));
        fine(TWO);
        dueAll("without again", row(x.cost(0), x.cost(3), x.cost(4)), 1, 1, -1);
    }

    private static void matters() {
        says("MATTERS, of a THING: by all LISTS that are LEFT some SET RINGS with it and not without it (1); by none (0); else 2.");
        start(TWO);
        dueAll("open", row(x.matters(0), x.matters(1)), 2, 2);
        rang(1);
        dueAll("a by all", row(x.matters(0), x.matters(1)), 1, 2);
        silent(2);
        dueAll("b by none", row(x.matters(0), x.matters(1)), 1, 0);
        start(TWO);
        silent(3);
        dueAll("nothing RINGS", row(x.matters(0), x.matters(1)), 0, 0);
        rang(3);
        dueAll("none is LEFT", row(x.matters(0), x.matters(1)), -1, -1);
        start(things(6) + "most 4;bar 24;");
        rang(63);
        dueAll("only with all", row(x.matters(0), x.matters(5)), 1, 1);

        says("ALIKE, of two THINGS: by all LISTS LEFT each SET with the one and not the other RINGS just if it does with the"
                + " other one instead (1); by none (0); else 2.");
        start(TWO);
        due("open", x.alike(0, 1), 2);
        rang(3);
        due("hint", x.hint(1, 1), 0);
        dueAll("one of both alone", row(x.alike(0, 1), x.alike(1, 0)), 0, 0);
        start(TWO);
        silent(1, 2);
        dueAll("none alone", row(x.alike(0, 1), x.alike(1, 0)), 1, 1);
        start(THREE);
        rang(3, 5);
        silent(6);
        dueAll("with a third one", row(x.alike(0, 1), x.alike(0, 2), x.alike(1, 2), x.alike(2, 1)), 0, 0, 1, 1);
        silent(3);
        due("none is LEFT", x.alike(1, 2), -1);
        start(things(6) + "most 4;bar 4;");
        rang(1, 32);
        due("both alone", x.alike(0, 5), 1);
        dueAll("open", row(x.alike(4, 5), x.alike(5, 4), x.alike(1, 2)), 2, 2, 2);
        silent(16);
        dueAll("not", row(x.alike(4, 5), x.alike(0, 4), x.alike(5, 0)), 0, 0, 1);
    }

    private static void next() {
        says("NEXT: SETS that PART (some LISTS LEFT RING it, some don't):");
        start(TWO + "cost size;");
        due("SET 0 is cheap but never RINGS", x.next(2), 1);
        rang(3);
        dueAll("SET 3 RINGS by all", row(x.next(0), x.next(1), x.next(2)), 1, 1, 1);
        silent(1);
        dueAll("SET 1 by none", row(x.next(0), x.next(1), x.next(2)), 2, 2, 2);
        silent(2);
        dueAll("one LIST", row(x.next(0), x.next(1), x.next(2)), -1, -1, -1);
        rang(2);
        dueAll("no LIST", row(x.next(0), x.next(1), x.next(2)), -1, -1, -1);
        start("");
        dueAll("no THING", row(x.next(0), x.next(1), x.next(2)), -1, -1, -1);
        start(things(6) + "most 4;bar 24;");
        dueAll("only SET 63 does", row(x.next(0), x.next(1), x.next(2)), 63, 63, 63);

        says("HALVE: that of which the more LISTS that agree are the fewest;");
        start(STEEP);
        due("one, two or three of four", x.next(0), 2);
        start(TWO + "allow sum < 3 and (a < 2);");
        due("LISTS, not WEIGHTS", x.next(0), 2);

        says("STILL: that by which the fewest WEIGHTS LEFT RING;");
        start(STEEP);
        due("one of six", x.next(1), 1);
        start(TWO + "allow a = 2 and (b < 2) or (a = 0 and (not (b = 1)));");
        due("WEIGHTS, not LISTS", x.next(1), 2);
        due("LISTS are as many", x.next(0), 1);
        start("thing a;thing b;most 3;bar 3;allow not (b = 3 and (1 < a));");
        due("two, not three", x.next(1), 2);

        says("CHEAP: that of the least COST, of equal ones as HALVE; of equal ones in all the least SET.");
        start(TWO + "cost 4 - size;");
        due("the least COST", x.next(2), 3);
        start(STEEP + "cost 1;");
        due("all equal: as HALVE", x.next(2), 2);
        start(STEEP + "cost 0 - a;");
        due("all 0: as HALVE", x.next(2), 2);
        start(STEEP + "cost 1 + b;");
        due("SET 1 is cheaper", x.next(2), 1);
        start(TWO + "cost 5 - size * 4;");
        due("SETS 1 and 2 are equal, SET 3 is 0", x.next(2), 3);
        start(TWO + "cost size;");
        dueAll("equal in all", row(x.next(0), x.next(1), x.next(2)), 1, 1, 1);
    }

    private static void fewest() {
        says("FEWEST: the fewest TRIALS in the worst case, by choosing each by what came of those ahead, till one LIST is LEFT"
                + " (12 LISTS at most are asked about); the first SET, of all with which it can be done so, the least.");
        start(TWO);
        dueAll("five LISTS", row(x.fewest(0), x.fewest(1)), 3, 1);
        rang(1);
        dueAll("two LISTS", row(x.fewest(0), x.fewest(1)), 1, 2);
        rang(2);
        dueAll("one LIST", row(x.fewest(0), x.fewest(1)), 0, -1);
        silent(3);
        dueAll("no LIST", row(x.fewest(0), x.fewest(1)), -1, -1);
        start(TWELVE);
        dueAll("12 LISTS", row(x.left(1), x.fewest(0), x.fewest(1)), 12, 4, 1);
        start(THIRTEEN);
        dueAll("13 LISTS", row(x.left(1), x.fewest(0), x.fewest(1)), 13, -1, -1);
        dueAll("13 LISTS, a question", row(x.fewestFor(3, 0, 0), x.fewestFor(3, 0, 1), x.fewestFor(4, 0, 0)), -1, -1, -1);
        rang(3);
        dueAll("12 again", row(x.left(1), x.fewest(0), x.fewest(1), x.fewestFor(3, 0, 0)), 12, 4, 1, 0);
        start(STEEP);
        dueAll("not by SET 1 or SET 3 first", row(x.fewest(0), x.fewest(1)), 2, 2);
        start(things(6) + "most 1;bar 5;allow sum = 5;");
        dueAll("each SET tells one of six apart", row(x.left(1), x.fewest(0), x.fewest(1), x.worst(0)), 6, 5, 31, 5);
    }

    private static void questions() {
        says("FEWEST for a question: likewise, till all LISTS that are LEFT answer it alike: 0 which LIST; 1 MATTERS a THING;"
                + " 2 are two THINGS (6 * a + b) ALIKE; 3 does a SET RING; 4 how many SETS RING.");
        start(TWO);
        dueAll("which LIST", row(x.fewestFor(0, 0, 0), x.fewestFor(0, LEAST, 1), x.fewestFor(0, GREATEST, 0)), 3, 1, 3);
        dueAll("matters a", row(x.fewestFor(1, 0, 0), x.fewestFor(1, 0, 1)), 2, 2);
        dueAll("matters b", row(x.fewestFor(1, 1, 0), x.fewestFor(1, 1, 1)), 2, 1);
        dueAll("alike", row(x.fewestFor(2, 1, 0), x.fewestFor(2, 6, 0), x.fewestFor(2, 1, 1)), 2, 2, 1);
        dueAll("rings", row(x.fewestFor(3, 2, 0), x.fewestFor(3, 2, 1)), 1, 2);
        dueAll("never rings", row(x.fewestFor(3, 0, 0), x.fewestFor(3, 0, 1)), 0, -1);
        dueAll("how many", row(x.fewestFor(4, LEAST, 0), x.fewestFor(4, GREATEST, 0)), 3, 3);
        rang(3);
        due("hint", x.hint(1, 1), 0);
        dueAll("two LISTS", row(x.fewestFor(0, 0, 0), x.fewestFor(0, 0, 1)), 1, 1);
        dueAll("of which a matters by one", row(x.fewestFor(1, 0, 0), x.fewestFor(1, 0, 1)), 1, 1);
        dueAll("not alike by both", row(x.fewestFor(2, 1, 0), x.fewestFor(2, 1, 1)), 0, -1);
        dueAll("as many by both", row(x.fewestFor(4, 0, 0), x.fewestFor(4, 0, 1)), 0, -1);
        dueAll("sure", row(x.fewestFor(3, 3, 0), x.fewestFor(3, 3, 1), x.fewestFor(3, 2, 1)), 0, -1, 1);
        start(things(6) + "most 4;bar 24;");
        dueAll("things 4 and 5", row(x.fewestFor(2, 29, 0), x.fewestFor(2, 34, 0), x.fewestFor(1, 5, 0), x.fewestFor(3, 63, 1)), 0, 0, 1, 63);
    }

    private static void runs() {
        says("RUN of HIDDEN WEIGHTS (that are LEFT) by a way (0 HALVE, 1 STILL, 2 CHEAP): TRIALS are made, one NEXT behind the"
                + " other, as if they came into the BOOK, till one LIST is LEFT or 60 were made: how many, how many RANG, all"
                + " COSTS; the i-th SET. (The BOOK stays.)");
        start(TWO + "cost 1 + size;");
        dueAll("run", row(x.run(4, 0, 0), x.run(4, 0, 1), x.run(4, 0, 2)), 3, 1, 7);
        dueAll("sets", row(x.runSet(4, 0, 0), x.runSet(4, 0, 1), x.runSet(4, 0, 2), x.runSet(4, 0, 3)), 1, 2, 3, -1);
        dueAll("one behind another", row(x.run(0, 0, 1), x.run(4, 0, 1), x.run(8, 0, 1), x.run(0, 0, 1)), 0, 1, 2, 0);
        dueAll("one behind another", row(x.runSet(8, 0, 2), x.runSet(0, 0, 2), x.runSet(8, 1, 2), x.runSet(0, 1, 2)), -1, 3, -1, 3);
        due("the BOOK stays", x.count(6), 0);
        due("all is LEFT", x.left(0), 9);
        silent(3);
        for (int way = 0; way < 3; way++) {
            dueAll("one LIST", row(x.run(0, way, 0), x.run(0, way, 1), x.run(0, way, 2), x.runSet(0, way, 0)), 0, 0, 0, -1);
        }
        due("not LEFT", thrown(4, 0, 0), 1);
        start(STEEP);
        dueAll("the ways", row(x.runSet(8, 0, 0), x.runSet(8, 1, 0), x.run(8, 0, 0), x.run(8, 1, 0)), 2, 1, 2, 1);
        due("may not be", thrown(1, 0, 0), 1);
        start(SLOW);
        dueAll("60 were made", row(x.run(63, 2, 0), x.run(63, 2, 1), x.run(63, 2, 2)), 60, 60, 171);
        dueAll("sets", row(x.runSet(63, 2, 0), x.runSet(63, 2, 59), x.runSet(63, 2, 60)), 63, 4, -1);
        dueAll("halves", row(x.run(63, 0, 0), x.run(0, 2, 0), x.run(0, 2, 1)), 6, 1, 0);
        // The document counts what the RUN makes, not what is in the BOOK.
        for (int told = 0; told < 6; told++) {
            due("of its own, behind " + told, x.run(63, 2, 0), Math.min(60, 63 - told));
            rang(x.runSet(63, 2, 0));
        }
    }

    private static void allRuns() {
        says("WORST: the most TRIALS of a RUN of any that are LEFT;");
        start(TWO);
        due("worst", x.worst(0), 3);
        rang(3);
        dueAll("of those LEFT", row(x.worst(0), x.worst(1), x.worst(2)), 2, 2, 2);
        silent(1, 2);
        dueAll("one LIST", row(x.worst(0), x.worst(1), x.worst(2)), 0, 0, 0);
        rang(1);
        dueAll("no LIST", row(x.worst(0), x.worst(1), x.worst(2)), -1, -1, -1);
        start(SLOW);
        dueAll("60 at most", row(x.worst(0), x.worst(2)), 6, 60);

        says("MEAN: all of these RUNS together by how many WEIGHTS are LEFT.");
        start(TWO);
        dueAll("mean", row(x.mean(0, 0), x.mean(0, 1)), 22, 9);
        rang(3);
        dueAll("all alike", row(x.mean(0, 0), x.mean(0, 1)), 2, 1);
        silent(1, 2);
        dueAll("one LIST", row(x.mean(0, 0), x.mean(0, 1)), 0, 1);
        rang(1);
        dueAll("no LIST", row(x.mean(0, 0), x.mean(0, 1)), -1, -1);
        start(STEEP);
        dueAll("1 by one, 2 by two, 3 by three", row(x.mean(1, 0), x.mean(1, 1)), 7, 3);
    }
}
