/** The document's parts 4 and 5: what fits the BOOK, what may be off with it, and what told WEIGHTS say. */
final class EdgesOfAnswers extends Edges {
    static void all() {
        smallest();
        cannot();
        firstPairs();
        hints();
        wrong();
        grown();
        bells();
        late();
        often();
        vote();
        heavy();
        feather();
        leastSets();
        same();
        odds();
        marks();
    }

    private static void smallestIs(String what, int sum, int bar, int number) {
        dueAll(what, row(x.smallest(0), x.smallest(1), x.smallest(2)), sum, bar, number);
    }

    private static void smallest() {
        says("SMALLEST: WEIGHTS from 0 to most (whether they MAY be or not) and some bar of 1 or more, by which each TRIAL is as"
                + " told: the least sum, then the least bar, then the least number.");
        start(TWO);
        smallestIs("no TRIALS: the bar is not 0", 0, 1, 0);
        silent(0, 3);
        smallestIs("none RANG", 0, 1, 0);
        start(TWO);
        rang(3);
        smallestIs("the least number", 1, 1, 1);
        silent(1);
        smallestIs("the other one", 1, 1, 3);
        silent(2);
        smallestIs("both", 2, 2, 4);
        silent(3);
        smallestIs("RANG and did not", -1, -1, -1);
        start(TWO);
        rang(0);
        smallestIs("nothing weighs nothing", -1, -1, -1);
        start(TWO + "allow 0;");
        rang(3);
        smallestIs("though they may not be", 1, 1, 1);
        String bigger = "thing a;thing b;thing c;most ";
        for (int most = 1; most <= 2; most++) {
            start(bigger + most + ";");
            rang(3, 5);
            silent(1, 6);
            if (most == 1) smallestIs("most is too small", -1, -1, -1);
            else smallestIs("2, 1 and 1", 4, 3, 14);
        }
        start("thing a;most 1;bar 60;");
        rang(1);
        smallestIs("another bar than the TOWER's", 1, 1, 1);
        start("thing a;thing b;thing c;thing d;thing e;");
        rang(11, 19);
        silent(2, 4, 5);
        smallestIs("the bar ahead of the number", 2, 1, 320);
        start("");
        smallestIs("of no THING", 0, 1, 0);
        rang(0);
        smallestIs("of no THING", -1, -1, -1);
        start(things(6) + "most 4;bar 1;");
        rang(63);
        silent(62, 61, 59, 55, 47, 31);
        smallestIs("all six", 6, 6, 1 + 5 + 25 + 125 + 625 + 3125);
    }

    private static void cannotIs(String what, int... answers) {
        for (int i = 0; i < 7; i++) due(what + ": cannot(" + i + ")", x.cannot(i), answers[i]);
    }

    private static void cannot() {
        says("CAN'T: without such: the fewest pairs (3 at most) of a TRIAL that RANG and one that did not (each may come more than"
                + " once) so that no THING is oftener in those that RANG than in the others: by trade such can't be by any"
                + " WEIGHTS: how many pairs;");
        start(TWO);
        cannotIs("no TRIALS", -1, -1, -1, -1, -1, -1, -1);
        rang(3);
        cannotIs("such are", -1, -1, -1, -1, -1, -1, -1);
        silent(3);
        cannotIs("RANG and did not", 1, 0, -1, -1, 1, -1, -1);
        start(TWO);
        rang(0);
        cannotIs("no other", -1, -1, -1, -1, -1, -1, -1);
        silent(0);
        cannotIs("nothing in it", 1, 0, -1, -1, 1, -1, -1);
        start("thing a;thing b;thing c;most 1;");
        rang(3, 5);
        silent(1, 6);
        cannotIs("only most is too small", -1, -1, -1, -1, -1, -1, -1);
        start(things(4) + "most 1;");
        rang(3, 12);
        silent(5, 10);
        cannotIs("two pairs", 2, 0, 1, -1, 2, 3, -1);
        silent(13);
        cannotIs("one is fewer", 1, 1, -1, -1, 4, -1, -1);
        start(things(6) + "most 1;");
        rang(11, 22, 37);
        silent(35, 14, 21);
        cannotIs("three pairs", 3, 0, 1, 2, 3, 4, 5);
        start(things(6) + "most 1;");
        rang(7, 56);
        silent(11, 22, 37);
        cannotIs("one comes twice", 3, 0, 0, 1, 2, 3, 4);
        start(things(6) + "most 4;");
        // b c d, a d e, a b f and c e f against b c e and a d f, each twice: by no fewer than four pairs.
        rang(14, 25, 35, 52);
        silent(22, 41);
        due("four pairs would do", x.smallest(0), -1);
        cannotIs("four pairs are too many", -1, -1, -1, -1, -1, -1, -1);
    }

    private static void firstPairs() {
        says("the TRIALS of the first such pairs (by the numbers of those that RANG, in order, not falling; then of the others, likewise).");
        start(TWO);
        rang(1, 2);
        silent(2, 3, 1);
        cannotIs("those that RANG first", 1, 0, -1, -1, 3, -1, -1);
        start(TWO);
        silent(3, 1);
        rang(3, 1, 1);
        cannotIs("then the others", 1, 2, -1, -1, 0, -1, -1);
        start(things(4) + "most 1;");
        silent(10);
        rang(12);
        silent(5, 5, 10);
        rang(12, 3, 3);
        cannotIs("the first of each kind", 2, 1, 6, -1, 0, 2, -1);
        start(things(6) + "most 1;");
        silent(37, 22);
        rang(56, 7);
        silent(11);
        cannotIs("not falling", 3, 2, 3, 3, 0, 1, 4);
    }

    private static void hints() {
        says("(HINTS do not count in SMALLEST, CAN'T, WRONG, WITH, GROWN, BELLS, LATE.)");
        start(TWO);
        silent(3);
        rang(3);
        String before = bookAnswers();
        due("hint", x.hint(0, 64), 0);
        due("none is LEFT", x.left(0), 0);
        dueText("the answers", bookAnswers(), before);
        dueText("the answers", before, "-1 1 1 9 0 0 0 9 9 1 1 0 -1 0 6 9 ");
        start(TWO);
        rang(3);
        before = bookAnswers();
        due("hint", x.hint(2, 0), 0);
        due("none is LEFT", x.left(0), 0);
        dueText("the answers", bookAnswers(), before);
        dueText("the answers", before, "1 -1 0 6 0 -1 6 9 9 -1 -1 -1 1 6 9 9 ");
    }

    private static String bookAnswers() {
        int[] answers = {x.smallest(0), x.cannot(0), x.wrong(0), x.wrong(1), x.suspect(0), x.suspect(1),
            x.with(0), x.with(1), x.with(60), x.grown(0), x.grown(1), x.grown(2), x.bells(), x.late(0, 0), x.late(1, 0), x.late(-1, 0)};
        StringBuilder b = new StringBuilder();
        for (int a : answers) b.append(a).append(' ');
        return b.toString();
    }

    private static void wrong() {
        says("WRONG: the fewest TRIALS that are not as told by some WEIGHTS that MAY be; by how many WEIGHTS it is so few; TRIALS"
                + " that are among them by all of these.");
        start(TWO);
        dueAll("no TRIALS", row(x.wrong(0), x.wrong(1)), 0, 9);
        rang(3);
        dueAll("as told", row(x.wrong(0), x.wrong(1), x.suspect(0)), 0, 6, 0);
        start(TWO);
        rang(1);
        silent(3);
        dueAll("the one or the other", row(x.wrong(0), x.wrong(1), x.suspect(0), x.suspect(1)), 1, 6, 0, 0);
        rang(1);
        dueAll("the other", row(x.wrong(0), x.wrong(1), x.suspect(0), x.suspect(1), x.suspect(2)), 1, 3, 0, 1, 0);
        start(TWO + "allow a = 0;");
        rang(1);
        dueAll("that MAY be", row(x.wrong(0), x.wrong(1), x.suspect(0)), 1, 3, 1);
        start(TWO + "allow a = 2;");
        silent(3);
        dueAll("that MAY be", row(x.wrong(0), x.wrong(1), x.suspect(0), x.with(0), x.with(1)), 1, 3, 1, 0, 3);
        start(TWO + "allow 0;");
        rang(1);
        dueAll("none MAY be", row(x.wrong(0), x.wrong(1), x.suspect(0)), -1, -1, -1);
        start(TWO);
        for (int i = 0; i < 60; i++) rang(0);
        dueAll("all of a full BOOK", row(x.wrong(0), x.wrong(1), x.suspect(0), x.suspect(59), x.suspect(60)), 60, 9, 1, 1, -1);
        start(TWO + "allow a = 0 or (b = 0);");
        rang(2, 2, 1);
        dueAll("a worse one comes first", row(x.suspect(0), x.suspect(1), x.suspect(2), x.wrong(0), x.wrong(1)), 0, 0, 1, 1, 1);
        start(TWO + "allow a = 0 or (b = 0);");
        silent(1);
        rang(3);
        silent(2);
        silent(2);
        dueAll("a worse one comes last", row(x.suspect(0), x.suspect(1), x.suspect(2), x.wrong(0), x.wrong(1)), 0, 0, 0, 1, 4);
        start(TWO);
        rang(1);
        due("of another TOWER", x.suspect(0), 0);
        fine("thing a;bar 60;");
        for (int i = 0; i < 60; i++) rang(1);
        dueAll("all wrong", row(x.suspect(0), x.suspect(59), x.wrong(0)), 1, 1, 60);
        start(things(6) + "most 4;bar 24;");
        for (int i = 0; i < 30; i++) {
            rang(63);
            silent(63);
        }
        dueAll("half of a full BOOK", row(x.wrong(0), x.wrong(1), x.suspect(0), x.suspect(59)), 30, 15625, 0, 0);

        says("WITH so many wrong at most: how many WEIGHTS.");
        start(TWO);
        rang(1);
        silent(3);
        dueAll("with", row(x.with(0), x.with(1), x.with(2), x.with(3), x.with(60)), 0, 6, 9, 9, 9);
        start(TWO);
        for (int i = 0; i < 60; i++) rang(0);
        dueAll("all wrong", row(x.with(0), x.with(59), x.with(60)), 0, 0, 9);
        start(TWO + "allow 0;");
        dueAll("none MAY be", row(x.with(0), x.with(60)), 0, 0);
    }

    private static void grownIs(String what, int by, int from, int thing) {
        dueAll(what, row(x.grown(0), x.grown(1), x.grown(2)), by, from, thing);
    }

    private static void grown() {
        says("GROWN: from a TRIAL on (0 to how many there are less 1) a THING weighs by D (1 to 5) more: the least D, then the last"
                + " TRIAL, then the first THING, with which some WEIGHTS that MAY be give the BOOK; none if they do without, or none does.");
        start("thing a;most 1;bar 2;");
        grownIs("no TRIALS", -1, -1, -1);
        silent(1);
        grownIs("without", -1, -1, -1);
        rang(1);
        grownIs("from the last on", 1, 1, 0);
        silent(0);
        grownIs("still from that one on", 1, 1, 0);
        silent(1);
        grownIs("it does not shrink", -1, -1, -1);
        start("thing a;most 1;bar 2;");
        rang(1);
        grownIs("from the first on", 1, 0, 0);
        start("thing a;most 1;bar 2;");
        silent(0, 0);
        rang(1, 1);
        grownIs("the last TRIAL", 1, 2, 0);
        for (int bar = 2; bar <= 7; bar++) {
            start("thing a;most 1;bar " + bar + ";");
            rang(1);
            int by = bar <= 6 ? bar - 1 : -1;
            grownIs("bar " + bar, by, by > 0 ? 0 : -1, by > 0 ? 0 : -1);
        }
        start("thing a;thing b;most 1;bar 3;");
        rang(3);
        grownIs("the first THING", 1, 0, 0);
        rang(2);
        grownIs("the other THING", 2, 0, 1);
        start("thing a;thing b;most 2;bar 3;allow a = 2 and (b = 0) or (a = 1 and (b = 2));");
        rang(3, 1);
        grownIs("the least D ahead of the last TRIAL", 1, 0, 0);
        start(things(3) + "most 2;bar 3;allow a = 1 and b = 1 and c = 2 or (a = 2 and b = 1 and c = 1);");
        rang(3, 6);
        grownIs("the last TRIAL ahead of the first THING", 1, 1, 1);
        start("thing b;thing a;most 2;bar 3;allow a = 2 and (b = 0) or (a = 1 and (b = 2));");
        rang(3, 2);
        grownIs("the least D, of greater WEIGHTS", 1, 0, 1);
        start("thing c;thing b;thing a;most 2;bar 3;allow a = 1 and b = 1 and c = 2 or (a = 2 and b = 1 and c = 1);");
        rang(6, 3);
        grownIs("the last TRIAL, of greater WEIGHTS", 1, 1, 0);
        start(things(3) + "most 2;bar 3;allow a = 1 and b = 1 and (0 < c);");
        rang(3, 6);
        grownIs("the first THING, of greater WEIGHTS", 1, 0, 0);
        start(things(3) + "most 2;bar 3;allow a = 2 and b = 0 and c = 2 or (a = 0 and b = 2 and c = 1);");
        rang(3, 6);
        grownIs("the first THING, of lesser WEIGHTS", 1, 0, 0);
        start(things(3) + "most 2;bar 3;allow a = 2 and b = 0 and c = 2;");
        rang(3, 6);
        grownIs("only the other THING", 1, 0, 1);
        start("thing a;most 3;bar 3;allow a < 2;");
        rang(1);
        grownIs("that MAY be", 2, 0, 0);
        start(TWO);
        rang(0);
        grownIs("none does", -1, -1, -1);
        start(TWO + "allow 0;");
        rang(3);
        grownIs("none MAY be", -1, -1, -1);
        start("thing a;most 1;bar 1;");
        for (int i = 0; i < 59; i++) silent(1);
        rang(1);
        grownIs("the last of a full BOOK", 1, 59, 0);
        start(things(6) + "most 4;bar 24;");
        silent(63);
        rang(31);
        grownIs("the first of six", 4, 1, 0);
        rang(32);
        grownIs("not both", -1, -1, -1);
    }

    private static void bells() {
        says("BELLS: the fewest (0 to 2) LISTS of WEIGHTS that MAY be so that a TRIAL RANG just if its SET RINGS by one of them at least.");
        start(TWO);
        due("no TRIALS", x.bells(), 0);
        silent(3, 0);
        due("none RANG", x.bells(), 0);
        start(TWO);
        rang(3);
        due("one", x.bells(), 1);
        start(TWO);
        rang(3);
        silent(3);
        due("not by any", x.bells(), -1);
        start(TWO);
        rang(0);
        due("not by any", x.bells(), -1);
        start("thing a;thing b;most 1;bar 1;");
        rang(1, 2);
        due("one has both", x.bells(), 1);
        start("thing a;thing b;most 1;bar 1;allow sum < 2;");
        rang(1, 2);
        due("none that MAY be has both", x.bells(), 2);
        silent(3);
        due("and neither may ring", x.bells(), -1);
        start(things(3) + "most 1;bar 1;allow sum < 2;");
        rang(1, 2);
        silent(4);
        due("two", x.bells(), 2);
        start(things(3) + "most 1;bar 1;allow sum < 2;");
        rang(1, 2, 4);
        due("three are too many", x.bells(), -1);
        start("thing a;most 1;bar 1;allow a;");
        rang(1);
        due("the only one that MAY be", x.bells(), 1);
        start("thing a;thing b;most 1;bar 1;allow a + b = 1;");
        rang(1, 2);
        due("the only two", x.bells(), 2);
        start(TWO + "allow 0;");
        silent(3);
        due("none MAY be, none RANG", x.bells(), 0);
        rang(3);
        due("none MAY be", x.bells(), -1);
    }

    private static void lateIs(String what, int... answers) {
        for (int n = 0; n <= 5; n++) {
            due(what + ": late(" + n + ", 0)", x.late(n, 0), answers[n]);
            due(what + ": late(" + n + ", 1)", x.late(n, 1), n);
        }
        due(what + ": the best", x.late(-1, 1), answers[6]);
        due(what + ": by the best", x.late(-1, 0), answers[answers[6]]);
    }

    private static void late() {
        says("LATE by n TRIALS (0 to 5): what was told of a TRIAL was told of the one n ahead of it (the first n tell nothing): by how"
                + " many WEIGHTS that MAY be it would be so; the n with the most, of equal ones the least.");
        start(TWO);
        lateIs("no TRIALS", 9, 9, 9, 9, 9, 9, 0);
        rang(3);
        lateIs("one", 6, 9, 9, 9, 9, 9, 1);
        rang(0);
        lateIs("two", 0, 6, 9, 9, 9, 9, 2);
        start(TWO);
        silent(3, 0, 0, 0, 0);
        rang(0);
        lateIs("by five", 0, 0, 0, 0, 0, 6, 5);
        start(TWO + "allow a = 2;");
        silent(1);
        rang(3, 0);
        lateIs("that MAY be", 0, 3, 3, 3, 3, 3, 1);
        start(TWO + "allow 0;");
        rang(3);
        lateIs("none MAY be", 0, 0, 0, 0, 0, 0, 0);
        start(TWO);
        rang(3);
        silent(3);
        lateIs("the first one tells nothing", 0, 3, 9, 9, 9, 9, 2);
    }

    private static void often() {
        says("OFTEN: of LISTS LEFT the least and the greatest number of SETS that RING; of those with so many: how many LISTS.");
        start(TWO);
        dueAll("often", row(x.often(0), x.often(1)), 0, 3);
        dueAll("rings", row(x.rings(0), x.rings(1), x.rings(2), x.rings(3), x.rings(4), x.rings(64)), 1, 1, 2, 1, 0, 0);
        rang(3);
        dueAll("often", row(x.often(0), x.often(1), x.rings(0), x.rings(1)), 1, 3, 0, 1);
        silent(3);
        dueAll("none is LEFT", row(x.often(0), x.often(1), x.rings(0), x.rings(1)), -1, -1, 0, 0);
        start(TWO);
        rang(1, 2);
        dueAll("one LIST", row(x.often(0), x.often(1), x.rings(3)), 3, 3, 1);
        start(things(6) + "most 1;bar 1;");
        dueAll("63 of 64", row(x.often(0), x.often(1), x.rings(63), x.rings(64), x.rings(32)), 0, 63, 1, 0, 6);
        start(things(6) + "most 1;bar 60;");
        dueAll("never", row(x.often(0), x.often(1), x.rings(0)), 0, 0, 1);
    }

    private static void vote() {
        says("By told WEIGHTS: VOTE of a THING: of all orders in which all THINGS may be laid on one by one the part in which it RINGS"
                + " by it (0 if it never RINGS at all): a fraction in lowest terms.");
        start(TWO);
        dueAll("half", row(x.vote(4, 0, 0), x.vote(4, 0, 1), x.vote(4, 1, 0), x.vote(4, 1, 1)), 1, 2, 1, 2);
        dueAll("all or nothing", row(x.vote(2, 0, 0), x.vote(2, 0, 1), x.vote(2, 1, 0), x.vote(2, 1, 1)), 1, 1, 0, 1);
        dueAll("it never RINGS", row(x.vote(0, 0, 0), x.vote(0, 0, 1), x.vote(3, 1, 0), x.vote(3, 1, 1)), 0, 1, 0, 1);
        start(THREE + "allow 0;");
        dueAll("though they may not be", row(x.vote(14, 0, 0), x.vote(14, 0, 1), x.vote(14, 1, 0), x.vote(14, 1, 1)), 2, 3, 1, 6);
        start("thing a;most 1;bar 1;");
        dueAll("alone", row(x.vote(1, 0, 0), x.vote(1, 0, 1)), 1, 1);
        start(things(6) + "most 4;bar 9;");
        // 4, 1, 1, 1, 1, 1 and a bar of 9: all are needed; with 4 and a bar of 5 the heavy one swings but in first place.
        int one = 5 + 25 + 125 + 625 + 3125;
        dueAll("all are needed", row(x.vote(one + 4, 0, 0), x.vote(one + 4, 0, 1), x.vote(one + 4, 5, 0), x.vote(one + 4, 5, 1)), 1, 6, 1, 6);
        start(things(6) + "most 4;bar 5;");
        dueAll("the heavy one", row(x.vote(one + 4, 0, 0), x.vote(one + 4, 0, 1), x.vote(one + 4, 5, 0), x.vote(one + 4, 5, 1)), 2, 3, 1, 15);

        says("SWINGS: SETS without it that don't RING, and do with it.");
        start(TWO);
        dueAll("swings", row(x.swings(4, 0), x.swings(2, 0), x.swings(2, 1), x.swings(0, 0), x.swings(8, 1)), 1, 2, 0, 0, 1);
        start(things(6) + "most 4;bar 4;");
        dueAll("all without it", row(x.swings(4, 0), x.swings(4 * 3125, 5), x.swings(4, 5), x.swings(3, 0)), 32, 32, 0, 0);
    }

    private static void heavy() {
        says("HEAVY: of SETS that don't RING that with the greatest weight; LIGHT: of those that RING the least; of equal ones the fewest"
                + " THINGS, then the least SET.");
        start(TWO);
        dueAll("nothing weighs", row(x.heavy(0, false, 0), x.heavy(0, false, 1), x.heavy(0, true, 0), x.heavy(0, true, 1)), 0, 0, -1, -1);
        dueAll("all that weigh RING", row(x.heavy(8, false, 0), x.heavy(8, false, 1), x.heavy(8, true, 0), x.heavy(8, true, 1)), 0, 0, 1, 2);
        dueAll("just the bar", row(x.heavy(4, false, 0), x.heavy(4, false, 1), x.heavy(4, true, 0), x.heavy(4, true, 1)), 1, 1, 3, 2);
        start(THREE);
        dueAll("the least SET", row(x.heavy(26, false, 0), x.heavy(26, true, 0), x.heavy(26, true, 1)), 1, 3, 4);
        dueAll("one that weighs nothing", row(x.heavy(5, false, 0), x.heavy(5, true, 0), x.heavy(5, true, 1)), 1, 3, 3);
        dueAll("none RINGS", row(x.heavy(3, false, 0), x.heavy(3, false, 1), x.heavy(3, true, 0)), 2, 1, -1);
        start("thing a;thing b;thing c;most 3;bar 3;");
        due("the fewest THINGS ahead of the least SET", x.heavy(1 + 4 * 2 + 16 * 3, true, 0), 4);
        start("thing a;thing b;thing c;most 3;bar 4;");
        due("the fewest THINGS ahead of the least SET", x.heavy(1 + 4 * 2 + 16 * 3, false, 0), 4);
        start(things(6) + "most 4;bar 24;");
        dueAll("all six", row(x.heavy(15624, true, 0), x.heavy(15624, true, 1), x.heavy(15624, false, 0), x.heavy(15624, false, 1)), 63, 24, 31, 20);
        dueAll("one less", row(x.heavy(15623, true, 0), x.heavy(15623, false, 0), x.heavy(15623, false, 1)), -1, 63, 23);
    }

    private static void feather() {
        says("FEATHER of a row of THINGS laid on, each once: the first with which it RINGS.");
        start(TWO);
        due("nothing lies there", x.feather(8), -1);
        dueAll("lay", row(x.lay(1), x.lay(1)), 1, -1);
        dueAll("b alone", row(x.feather(8), x.feather(6), x.feather(2), x.feather(4)), 1, 1, -1, -1);
        due("lay", x.lay(0), 2);
        dueAll("b, then a", row(x.feather(8), x.feather(6), x.feather(2), x.feather(4), x.feather(3)), 1, 1, 0, 0, -1);
        x.clear();
        dueAll("a, then b", row(x.lay(0), x.lay(1), x.feather(8), x.feather(4), x.feather(6)), 1, 2, 0, 1, 1);
        start(things(6) + "most 4;bar 24;");
        for (int t = 5; t >= 0; t--) due("lay", x.lay(t), 6 - t);
        dueAll("the last of six", row(x.feather(15624), x.feather(15623), x.lay(0), x.lay(6)), 0, -1, -1, -1);
    }

    private static void leastSets() {
        says("LEAST SETS: those that RING and would not without any one of their THINGS;");
        start(TWO);
        dueAll("none", row(x.leastSet(0, -1), x.leastSet(0, 0)), 0, -1);
        dueAll("one", row(x.leastSet(4, -1), x.leastSet(4, 0), x.leastSet(4, 1)), 1, 3, -1);
        dueAll("a alone", row(x.leastSet(5, -1), x.leastSet(5, 0), x.leastSet(5, 1)), 1, 1, -1);
        dueAll("b alone", row(x.leastSet(6, -1), x.leastSet(6, 0), x.leastSet(6, 1)), 1, 2, -1);
        dueAll("two", row(x.leastSet(8, -1), x.leastSet(8, 0), x.leastSet(8, 1), x.leastSet(8, 2)), 2, 1, 2, -1);
        start(things(6) + "most 1;bar 3;");
        dueAll("20", row(x.leastSet(63, -1), x.leastSet(63, 0), x.leastSet(63, 19), x.leastSet(63, 20)), 20, 7, 56, -1);
        start(things(6) + "most 1;bar 1;");
        for (int t = 0; t < 6; t++) {
            dueAll("thing " + t, row(x.leastSet(1 << t, -1), x.leastSet(1 << t, 0), x.leastSet(1 << t, 1), x.vetoes(1 << t)), 1, 1 << t, -1, 1 << t);
        }
        start(things(6) + "most 1;bar 6;");
        dueAll("SET 63", row(x.leastSet(63, -1), x.leastSet(63, 0), x.leastSet(63, 1)), 1, 63, -1);

        says("VETO: a THING in all that RING (all THINGS, if none RINGS).");
        start(TWO);
        dueAll("vetoes", row(x.vetoes(0), x.vetoes(4), x.vetoes(5), x.vetoes(6), x.vetoes(8)), 3, 3, 1, 2, 0);
        start("");
        due("no THING", x.vetoes(0), 0);
        start(things(6) + "most 1;bar 6;");
        dueAll("all six", row(x.vetoes(63), x.vetoes(0)), 63, 63);
    }

    private static void same() {
        says("SAME: WEIGHTS from 0 to most and a bar of 1 or more by which just those SETS RING: the least sum, the least bar, the least number.");
        start(TWO);
        dueAll("none RINGS", row(x.same(3, 0), x.same(3, 1), x.same(3, 2)), 0, 1, 0);
        dueAll("a", row(x.same(5, 0), x.same(5, 1), x.same(5, 2)), 1, 1, 1);
        dueAll("b", row(x.same(7, 0), x.same(7, 1), x.same(7, 2)), 1, 1, 3);
        dueAll("a or b", row(x.same(8, 0), x.same(8, 1), x.same(8, 2)), 2, 1, 4);
        dueAll("a and b", row(x.same(4, 0), x.same(4, 1), x.same(4, 2)), 2, 2, 4);
        start(THREE + "allow 0;");
        dueAll("though they may not be", row(x.same(14, 0), x.same(14, 1), x.same(14, 2)), 4, 3, 14);
        rang(0);
        dueAll("TRIALS do not count", row(x.same(14, 0), x.same(14, 1), x.same(14, 2)), 4, 3, 14);
        start(things(6) + "most 4;bar 24;");
        dueAll("all six", row(x.same(15624, 0), x.same(15624, 1), x.same(15624, 2)), 6, 6, 3906);
        start("");
        dueAll("no THING", row(x.same(0, 0), x.same(0, 1), x.same(0, 2)), 0, 1, 0);
    }

    private static void odds() {
        says("ODDS of a SET by what is LEFT: the part of WEIGHTS LEFT by which it RINGS.");
        start(TWO);
        dueAll("odds", row(x.odds(3, 0), x.odds(3, 1), x.odds(1, 0), x.odds(1, 1), x.odds(0, 0), x.odds(0, 1)), 2, 3, 1, 3, 0, 1);
        rang(3);
        dueAll("odds", row(x.odds(3, 0), x.odds(3, 1), x.odds(1, 0), x.odds(1, 1)), 1, 1, 1, 2);
        silent(3);
        dueAll("none is LEFT", row(x.odds(3, 0), x.odds(3, 1), x.odds(0, 0), x.odds(0, 1)), -1, -1, -1, -1);
        start(things(6) + "most 4;bar 24;");
        dueAll("one of all", row(x.odds(63, 0), x.odds(63, 1)), 1, 15625);

        says("GUESS: the WEIGHT that a THING has by the most WEIGHTS LEFT, of equal ones the least; least and greatest that it may have.");
        start(TWO);
        dueAll("all equal", row(x.guess(0, 0), x.guess(0, 1), x.guess(0, 2)), 0, 0, 2);
        rang(3);
        dueAll("2 by three of six", row(x.guess(0, 0), x.guess(0, 1), x.guess(0, 2)), 2, 0, 2);
        silent(1);
        dueAll("b: 2 by two of three", row(x.guess(1, 0), x.guess(1, 1), x.guess(1, 2)), 2, 1, 2);
        dueAll("a: 1 by two of three", row(x.guess(0, 0), x.guess(0, 1), x.guess(0, 2)), 1, 0, 1);
        silent(2);
        dueAll("one is LEFT", row(x.guess(0, 0), x.guess(0, 1), x.guess(0, 2)), 1, 1, 1);
        silent(3);
        dueAll("none is LEFT", row(x.guess(0, 0), x.guess(0, 1), x.guess(0, 2)), -1, -1, -1);
        start("thing a;most 9;bar 9;");
        dueAll("0 to 9", row(x.guess(0, 0), x.guess(0, 1), x.guess(0, 2)), 0, 0, 9);
        rang(1);
        dueAll("9", row(x.guess(0, 0), x.guess(0, 1), x.guess(0, 2)), 9, 9, 9);
        start("thing a;most 9;bar 9;allow a = 3 or (a = 7);");
        dueAll("of equal ones the least", row(x.guess(0, 0), x.guess(0, 1), x.guess(0, 2)), 3, 3, 7);
        start(TWO + "allow a = 0;");
        dueAll("only 0", row(x.guess(0, 0), x.guess(0, 1), x.guess(0, 2)), 0, 0, 0);
        start(things(6) + "most 4;bar 24;");
        rang(63);
        dueAll("thing 5", row(x.guess(5, 0), x.guess(5, 1), x.guess(5, 2)), 4, 4, 4);
    }

    private static void marks() {
        says("MARKS 0 to 3 hold how many TRIALS and HINTS there are; what was told since is gone when one is gone back to, and MARKS laid behind it.");
        start(TWO);
        for (int m = 0; m < 4; m++) {
            due("lay " + m, bit(x.mark(m, false)), 1);
            rang(3);
            due("hint", x.hint(2, 1), m);
        }
        due("left", x.left(0), 6);
        for (int m = 3; m >= 0; m--) {
            due("back to " + m, bit(x.mark(m, true)), 1);
            dueAll("so many", row(x.count(6), x.count(7), x.count(11)), m, m, m);
            due("it is there still", bit(x.mark(m, true)), 1);
            if (m < 3) due("the one behind it is gone", bit(x.mark(m + 1, true)), 0);
        }
        dueAll("as at first", row(x.left(0), x.left(1), x.with(0), x.trial(1, true), x.hint(1, 1)), 9, 5, 9, 0, 0);

        start(TWO);
        silent(3);
        due("lay", bit(x.mark(2, false)), 1);
        rang(3);
        dueAll("none is LEFT", row(x.left(0), x.smallest(0), x.cannot(0), x.wrong(0), x.bells(), x.grown(0)), 0, -1, 1, 1, -1, 1);
        due("back", bit(x.mark(2, true)), 1);
        dueAll("all is known anew", row(x.left(0), x.smallest(0), x.cannot(0), x.wrong(0), x.bells(), x.grown(0)), 3, 0, -1, 0, 0, -1);
        due("another one", x.trial(2, false), 1);
        due("back again", bit(x.mark(2, true)), 1);
        due("count", x.count(6), 1);
        due("laid anew", bit(x.mark(2, false)), 1);
        due("count", x.count(6), 1);

        start(TWO);
        for (int i = 0; i < 60; i++) rang(3);
        for (int i = 0; i < 8; i++) due("hint", x.hint(2, 1), i);
        due("lay, of a full BOOK", bit(x.mark(0, false)), 1);
        dueAll("full", row(x.trial(3, true), x.hint(2, 1)), -1, -1);
        due("back", bit(x.mark(0, true)), 1);
        dueAll("full still", row(x.count(6), x.count(11), x.trial(3, true), x.hint(2, 1)), 60, 8, -1, -1);
        start(TWO);
        due("lay, of an empty BOOK", bit(x.mark(3, false)), 1);
        for (int i = 0; i < 60; i++) rang(3);
        for (int i = 0; i < 8; i++) due("hint", x.hint(2, 1), i);
        due("back", bit(x.mark(3, true)), 1);
        dueAll("empty, and there is room", row(x.count(6), x.count(11), x.trial(3, true), x.hint(2, 1)), 0, 0, 0, 0);

        // Laid at the same place, but later: "behind" is taken as of time, as with THINGS laid on.
        start(TWO);
        dueAll("lay", row(bit(x.mark(1, false)), bit(x.mark(0, false))), 1, 1);
        dueAll("the older one", row(bit(x.mark(1, true)), bit(x.mark(0, true)), bit(x.mark(1, true))), 1, 0, 1);
        dueAll("laid anew, it is the newer one", row(bit(x.mark(0, false)), bit(x.mark(1, false)), bit(x.mark(0, true)), bit(x.mark(1, true))), 1, 1, 1, 0);
    }
}
