/** The promises 1 to 42: what each of them refuses, and that a refused call leaves all as it was. */
final class EdgesOfPromises extends Edges {
    private static final int[] WAYS = {0, 1, 2};

    static void all() {
        p1to3();
        p4to6();
        p7to8();
        p9to12();
        p13to15();
        p16to19();
        p20to21();
        p22to27();
        p28to29();
        p30to35();
        p36to38();
        p39to40();
        p41to42();
    }

    /** A TOWER with all that a call could spoil: a formula, TRIALS, HINTS, THINGS laid on, signs on the TAPE. */
    private static void startFull() {
        start(THREE + "allow sum < 6;cost size + 1;");
        rang(7, 3);
        silent(1);
        due("hint", x.hint(3, 1), 0);
        dueAll("lay", row(x.lay(2), x.lay(0)), 1, 2);
        feed("bar");
    }

    private static void p1to3() {
        says("`BellPlate()`: No THING: one WEIGHT of none, which does not RING.");
        x = new BellPlate();
        long[] got = new long[12];
        for (int i = 0; i < 12; i++) got[i] = x.count(i);
        dueAll("count", got, 0, 3, 10, 1, 1, 1, 0, 0, 0, 0, 0, 0);
        dueAll("the WEIGHT", row(x.may(0), x.may(1), x.list(0), x.left(0), x.left(1), x.left(2)), 1, -1, 0, 1, 1, 0);
        dueAll("the SET", row(x.sure(0), x.sure(1), x.cost(0), x.cost(1), x.odds(0, 0), x.odds(0, 1)), 0, -1, 1, -1, 0, 1);
        dueAll("no THING", row(x.matters(0), x.alike(0, 1), x.vote(0, 0, 0), x.swings(0, 0), x.guess(0, 0), x.lay(0)), -1, -1, -1, -1, -1, -1);
        dueAll("no MARK", row(bit(x.mark(0, true)), bit(x.mark(3, true))), 0, 0);
        dueAll("plans", row(x.next(0), x.fewest(0), x.fewest(1), x.run(0, 0, 0), x.worst(0), x.mean(0, 0), x.mean(0, 1)), -1, 0, -1, 0, 0, 0, 1);
        dueAll("questions", row(x.fewestFor(0, 0, 0), x.fewestFor(1, 0, 0), x.fewestFor(2, 1, 0), x.fewestFor(3, 0, 0), x.fewestFor(3, 1, 0), x.fewestFor(4, 0, 0)),
                0, -1, -1, 0, -1, 0);
        dueAll("hints", row(x.hint(1, 0), x.hint(0, 0), x.left(0), x.hint(0, 1), x.left(0)), -1, 0, 1, 1, 0);
        dueAll("the first call", row(new BellPlate().left(0), new BellPlate().left(1), new BellPlate().with(0), new BellPlate().wrong(1),
                new BellPlate().wrong(0), new BellPlate().grown(0), new BellPlate().bells(), new BellPlate().suspect(0)), 1, 1, 1, 1, 0, -1, 0, -1);
        dueAll("the first call", row(new BellPlate().worst(1), new BellPlate().mean(2, 1), new BellPlate().runSet(0, 0, 0), new BellPlate().late(-1, 0),
                new BellPlate().late(-1, 1), new BellPlate().rings(0), new BellPlate().often(1), new BellPlate().cannot(0)), 0, 1, -1, 1, 0, 1, 0, -1);

        says("`int feed(long a, long b, long c)`: Up to 24 signs come behind the TAPE: the bytes of a, b, c, of each the highest first;"
                + " others than 10 and 32 .. 126, and what is beyond 1,000, are left out: how many there are.");
        x = new BellPlate();
        dueAll("none", row(x.feed(0, 0, 0), x.feed(-1, -1, -1), x.feed(Long.MIN_VALUE, Long.MAX_VALUE, 0x8080808080808080L)), 0, 0, 0);
        due("24", x.feed(0x7468696e6720613bL, 0x7468696e6720623bL, 0x6d6f73740a0a323bL), 24);
        due("8 more", x.feed(0x6261720000200700L, 0, 0x39ff00000000003bL), 30);
        due("tower()", x.tower(), 0);
        dueAll("in order", row(x.count(0), x.count(1), x.count(2)), 2, 2, 9);
        for (int place = 0; place < 24; place++) {
            long[] v = new long[3];
            v[place / 8] = (long) ';' << (56 - 8 * (place % 8));
            x = new BellPlate();
            due("one sign at " + place, x.feed(v[0], v[1], v[2]), 1);
            due("tower()", x.tower(), 1);
        }
        x = new BellPlate();
        feed(" ".repeat(994));
        due("what is beyond is left out", feed("bar 7;????"), 1000);
        due("tower()", x.tower(), 0);
        due("bar", x.count(2), 7);
        feed(" ".repeat(995));
        due("one sign too many", feed("bar 7;"), 1000);
        due("tower()", x.tower(), 1 + 16 * 1000);
        feed("?".repeat(1000));
        due("full", x.feed(0x3b3b3b3b3b3b3b3bL, 0, 0), 1000);
        due("tower()", x.tower(), 1);

        says("`int tower()`: The TAPE is read as a TOWER: 0, or its FAULT (all stays then).");
        x = new BellPlate();
        due("nothing is on it", x.tower(), 0);
        startFull();
        due("mark", bit(x.mark(2, false)), 1);
        x.tower();
        String before = state();
        fault("thing", 1, 5);
        fault("cost a;", 2, 5);
        fault("thing z;thing z;", 3, 14);
        fault("most 1;bar 0;", 4, 11);
        fault("allow 1;allow 0;allow 0;allow 0;allow", 5, 32);
        fault("cost 9;" + things(6) + "most 9;bar 1;", 6, 68);
        dueText("all stays", state(), before);
        dueAll("the plate and the MARK too", row(x.feather(26), x.lay(0), x.lay(1), bit(x.mark(2, true))), 0, -1, 3, 1);
        due("names are free in the next text", read("thing a;"), 0);
    }

    private static void p4to6() {
        says("`int may(int weights)`: Whether WEIGHTS MAY be: 1 or 0; NONE: no such number.");
        startFull();
        String before = state();
        dueAll("may", row(x.may(0), x.may(25), x.may(26)), 1, 1, 0);
        for (int w : outside(0, 26)) due("may(" + w + ")", x.may(w), -1);
        says("`long list(int weights)`: The LIST of WEIGHTS; 0: no such number.");
        dueAll("list", row(x.list(0), x.list(26)), 0, 232);
        for (int w : outside(0, 26)) due("list(" + w + ")", x.list(w), 0);
        says("`int cost(int set)`: COST of a SET; NONE: no such SET.");
        dueAll("cost", row(x.cost(0), x.cost(7)), 1, 4);
        for (int s : outside(0, 7)) due("cost(" + s + ")", x.cost(s), -1);
        dueText("state", state(), before);
        start(things(6) + "most 4;");
        dueAll("the greatest", row(x.may(15624), x.may(15625), x.may(16383), x.may(16384), x.list(15625), x.cost(63), x.cost(64)), 1, -1, -1, -1, 0, 1, -1);
    }

    private static void p7to8() {
        says("`int trial(int set, boolean rang)`: A TRIAL: its number; NONE: no such SET, 60 are there.");
        startFull();
        String before = state();
        for (int s : outside(0, 7)) {
            due("trial(" + s + ", true)", x.trial(s, true), -1);
            due("trial(" + s + ", false)", x.trial(s, false), -1);
        }
        dueText("state", state(), before);
        for (int i = 3; i < 60; i++) due("its number", x.trial(7, true), i);
        before = state();
        for (int s = -1; s <= 8; s++) due("60 are there", x.trial(s, s % 2 == 0), -1);
        dueText("state", state(), before);
        start(things(6) + "most 1;bar 1;");
        dueAll("SET 63", row(x.trial(64, true), x.trial(63, true), x.trial(0, false), x.left(0)), -1, 0, 1, 63);
        start("");
        dueAll("no THING", row(x.trial(1, false), x.trial(0, false), x.left(0)), -1, 0, 1);

        says("`int hint(int k, int sets)`: A HINT, that of SETS of k THINGS so many (0 to 64) RING: its number; NONE: others (k 0 to all"
                + " THINGS), 8 are there.");
        startFull();
        before = state();
        for (int k : outside(0, 3)) due("hint(" + k + ", 0)", x.hint(k, 0), -1);
        for (int n : outside(0, 64)) due("hint(0, " + n + ")", x.hint(0, n), -1);
        for (int n : outside(0, 64)) due("hint(" + n + ", " + n + ")", x.hint(n == 65 ? -1 : n, n), -1);
        dueText("state", state(), before);
        for (int i = 1; i < 8; i++) due("its number", x.hint(0, 0), i);
        before = state();
        dueAll("8 are there", row(x.hint(0, 0), x.hint(3, 64), x.hint(4, 0)), -1, -1, -1);
        dueText("state", state(), before);
        start(THREE);
        dueAll("the bounds", row(x.hint(0, 0), x.hint(3, 1), x.left(0), x.hint(0, 64), x.left(0)), 0, 1, 17, 2, 0);
    }

    private static void p9to12() {
        says("`int left(int what)`: LEFT, what 0: how many WEIGHTS, 1: how many LISTS, 2: the least WEIGHTS (NONE: none); NONE for another what.");
        start(THREE);
        rang(3);
        dueAll("left", row(x.left(0), x.left(1), x.left(2)), 9, 4, 5);
        for (int w : outside(0, 2)) due("left(" + w + ")", x.left(w), -1);
        silent(3);
        dueAll("none", row(x.left(0), x.left(1), x.left(2), x.left(3)), 0, 0, -1, -1);

        says("`int sure(int set)`: SURE; NONE: no such SET, none is LEFT.");
        startFull();
        String before = state();
        for (int s : outside(0, 7)) due("sure(" + s + ")", x.sure(s), -1);
        says("`int matters(int thing)`: MATTERS; NONE: no such THING, none is LEFT.");
        for (int t : outside(0, 2)) due("matters(" + t + ")", x.matters(t), -1);
        says("`int alike(int a, int b)`: ALIKE; NONE: others, the same, none is LEFT.");
        for (int t : outside(0, 2)) {
            due("alike(" + t + ", 0)", x.alike(t, 0), -1);
            due("alike(2, " + t + ")", x.alike(2, t), -1);
            due("alike(" + t + ", " + t + ")", x.alike(t, t), -1);
        }
        for (int t = 0; t < 3; t++) due("the same", x.alike(t, t), -1);
        dueText("state", state(), before);
        silent(7);
        for (int i = 0; i < 8; i++) due("sure, none is LEFT", x.sure(i), -1);
        for (int i = 0; i < 3; i++) due("matters, none is LEFT", x.matters(i), -1);
        dueAll("alike, none is LEFT", row(x.alike(0, 1), x.alike(1, 2), x.alike(2, 0)), -1, -1, -1);
    }

    private static void p13to15() {
        says("`int next(int way)`: NEXT by a way (0 HALVE, 1 STILL, 2 CHEAP); NONE: another way, none PARTS.");
        start(THREE);
        for (int w : outside(0, 2)) due("next(" + w + ")", x.next(w), -1);
        silent(7);
        for (int w : WAYS) due("none PARTS", x.next(w), -1);
        rang(7);
        for (int w : WAYS) due("none is LEFT", x.next(w), -1);

        says("`int fewest(int what)`: FEWEST, what 0: how many TRIALS, 1: the first SET (NONE: 0 TRIALS); NONE: another what, none is LEFT,"
                + " more than 12 LISTS.");
        start(THREE);
        dueAll("fewest", row(x.fewest(0), x.fewest(1)), 4, 3);
        for (int w : outside(0, 1)) due("fewest(" + w + ")", x.fewest(w), -1);
        silent(7);
        dueAll("0 TRIALS", row(x.fewest(0), x.fewest(1), x.fewest(2)), 0, -1, -1);
        rang(7);
        dueAll("none is LEFT", row(x.fewest(0), x.fewest(1)), -1, -1);
        start(things(4) + "most 1;bar 1;");
        dueAll("16 LISTS", row(x.left(1), x.fewest(0), x.fewest(1)), 16, -1, -1);
        silent(3);
        dueAll("4 LISTS", row(x.left(1), x.fewest(0), x.fewest(1)), 4, 2, 4);

        says("`int fewestFor(int question, int which, int what)`: FEWEST for a question (0 to 4), what as of fewest(); NONE: likewise, no such"
                + " question, THING, two THINGS, SET.");
        start(THREE);
        for (int q : outside(0, 4)) due("question " + q, x.fewestFor(q, 0, 0), -1);
        for (int q = 0; q < 5; q++) for (int w : outside(0, 1)) due("what " + w, x.fewestFor(q, 1, w), -1);
        for (int t : outside(0, 2)) due("thing " + t, x.fewestFor(1, t, 0), -1);
        for (int s : outside(0, 7)) due("set " + s, x.fewestFor(3, s, 0), -1);
        start(THREE);
        for (int pair = -14; pair < 50; pair++) {
            int a = Math.floorDiv(pair, 6);
            int b = Math.floorMod(pair, 6);
            boolean fine = a >= 0 && a < 3 && b < 3 && a != b;
            due("two things " + pair, x.fewestFor(2, pair, 0), fine ? 2 : -1);
        }
        for (int pair : new int[] {LEAST, LEAST + 1, GREATEST, GREATEST - 1}) due("two things " + pair, x.fewestFor(2, pair, 0), -1);
        for (int any : new int[] {LEAST, -1, 0, 64, GREATEST}) {
            dueAll("which is free", row(x.fewestFor(0, any, 0), x.fewestFor(4, any, 0)), 4, 4);
        }
        rang(7);
        silent(7);
        for (int q = 0; q < 5; q++) dueAll("none is LEFT", row(x.fewestFor(q, 1, 0), x.fewestFor(q, 1, 1)), -1, -1);
        start(things(4) + "most 1;bar 1;");
        for (int q = 0; q < 5; q++) dueAll("16 LISTS", row(x.fewestFor(q, 1, 0), x.fewestFor(q, 1, 1)), -1, -1);
    }

    private static void p16to19() {
        says("`int run(int weights, int way, int what) throws NoSuchElementException`: RUN of WEIGHTS by a way, what 0: TRIALS, 1: how many RANG,"
                + " 2: COSTS; NoSuchElementException: others, they are not LEFT.");
        startFull();
        String before = state();
        int hidden = x.left(2);
        for (int way = 0; way < 3; way++) for (int what = 0; what < 3; what++) due("there is a run", thrown(hidden, way, what), 0);
        for (int w : outside(0, 26)) due("run of " + w, thrown(w, 0, 0), 1);
        for (int w : outside(0, 2)) due("run by " + w, thrown(hidden, w, 0), 1);
        for (int w : outside(0, 2)) due("run, what " + w, thrown(hidden, 0, w), 1);
        due("not LEFT by a TRIAL", thrown(0, 0, 0), 1);
        due("not LEFT by allow", thrown(26, 0, 0), 1);
        dueText("the BOOK stays", state(), before);

        says("`int runSet(int weights, int way, int i)`: The i-th SET of a RUN; NONE: none such, as of run().");
        start(THREE);
        dueAll("run", row(x.run(0, 0, 0), x.runSet(0, 0, 0), x.runSet(0, 0, 3), x.runSet(0, 0, 4)), 4, 3, 7, -1);
        for (int i : outside(0, 3)) due("runSet, i " + i, x.runSet(0, 0, i), -1);
        for (int w : outside(0, 26)) due("runSet of " + w, x.runSet(w, 0, 0), -1);
        for (int w : outside(0, 2)) due("runSet by " + w, x.runSet(0, w, 0), -1);
        rang(3);
        dueAll("not LEFT", row(x.runSet(0, 0, 0), x.runSet(26, 0, 0)), -1, 5);

        says("`int worst(int way)`: WORST by a way; NONE: another way, none is LEFT.");
        start(THREE);
        for (int w : outside(0, 2)) due("worst(" + w + ")", x.worst(w), -1);
        says("`int mean(int way, int what)`: MEAN by a way, what 0: above, 1: below; NONE: others, none is LEFT.");
        for (int w : outside(0, 2)) dueAll("mean(" + w + ")", row(x.mean(w, 0), x.mean(w, 1)), -1, -1);
        for (int w : outside(0, 1)) due("mean, what " + w, x.mean(0, w), -1);
        rang(0);
        for (int way : WAYS) dueAll("none is LEFT", row(x.worst(way), x.mean(way, 0), x.mean(way, 1), x.runSet(0, way, 0), thrown(0, way, 0)), -1, -1, -1, -1, 1);
    }

    private static void p20to21() {
        says("`int smallest(int what)`: SMALLEST, what 0: the sum, 1: the bar, 2: the number; NONE: another what, there is none.");
        start(THREE);
        rang(3);
        silent(1);
        dueAll("smallest", row(x.smallest(0), x.smallest(1), x.smallest(2)), 1, 1, 3);
        for (int w : outside(0, 2)) due("smallest(" + w + ")", x.smallest(w), -1);
        silent(3);
        dueAll("there is none", row(x.smallest(0), x.smallest(1), x.smallest(2), x.smallest(3)), -1, -1, -1, -1);

        says("`int cannot(int what)`: CAN'T, what 0: how many pairs, 1 to 3: TRIALS that RANG, 4 to 6: the others; NONE: others, beyond those"
                + " pairs, there is none (of so few).");
        long[] got = new long[7];
        for (int i = 0; i < 7; i++) got[i] = x.cannot(i);
        dueAll("beyond those pairs", got, 1, 0, -1, -1, 2, -1, -1);
        for (int w : outside(0, 6)) due("cannot(" + w + ")", x.cannot(w), -1);
        start(THREE);
        for (int i = 0; i < 7; i++) due("there is none", x.cannot(i), -1);
    }

    private static void p22to27() {
        says("`int wrong(int what)`: WRONG, what 0: the fewest, 1: by how many WEIGHTS; NONE: another what, no WEIGHTS MAY be.");
        startFull();
        String before = state();
        for (int w : outside(0, 1)) due("wrong(" + w + ")", x.wrong(w), -1);
        says("`int suspect(int trial)`: Whether a TRIAL is WRONG by all with the fewest: 1 or 0; NONE: none such, no WEIGHTS MAY be.");
        for (int t : outside(0, 2)) due("suspect(" + t + ")", x.suspect(t), -1);
        says("`int with(int wrong)`: How many WEIGHTS that MAY be have so many TRIALS (0 to 60) wrong at most; NONE: others.");
        for (int w : outside(0, 60)) due("with(" + w + ")", x.with(w), -1);
        due("with(60)", x.with(60), 26);
        says("`int grown(int what)`: GROWN, what 0: by how much, 1: from which TRIAL on, 2: the THING; NONE: another what, none.");
        for (int w : outside(0, 2)) due("grown(" + w + ")", x.grown(w), -1);
        says("`int late(int n, int what)`: LATE by n TRIALS (NONE: the best n), what 0: by how many WEIGHTS, 1: the n; NONE: others.");
        for (int n : outside(-1, 5)) dueAll("late(" + n + ")", row(x.late(n, 0), x.late(n, 1)), -1, -1);
        for (int w : outside(0, 1)) dueAll("late, what " + w, row(x.late(0, w), x.late(-1, w), x.late(5, w)), -1, -1, -1);
        dueText("state", state(), before);

        start(THREE + "allow 0;");
        rang(3);
        dueAll("no WEIGHTS MAY be", row(x.wrong(0), x.wrong(1), x.suspect(0), x.with(0), x.with(60), x.grown(0)), -1, -1, -1, 0, 0, -1);
        start(THREE);
        silent(3);
        rang(3);
        dueAll("grown", row(x.grown(0), x.grown(1), x.grown(2)), 1, 1, 0);
        for (int w : outside(0, 2)) due("grown(" + w + ")", x.grown(w), -1);
        due("suspect", x.suspect(2), -1);

        says("`int bells()`: BELLS; NONE: not by 2.");
        start(things(3) + "most 1;bar 1;allow sum < 2;");
        due("by 0", x.bells(), 0);
        rang(1);
        due("by 1", x.bells(), 1);
        rang(2);
        due("by 2", x.bells(), 2);
        rang(4);
        due("not by 2", x.bells(), -1);
    }

    private static void p28to29() {
        says("`int often(int what)`: OFTEN, what 0: the least, 1: the greatest; NONE: another what, none is LEFT.");
        start(THREE);
        dueAll("often", row(x.often(0), x.often(1)), 0, 4);
        for (int w : outside(0, 1)) due("often(" + w + ")", x.often(w), -1);
        says("`int rings(int sets)`: How many LISTS LEFT RING for so many SETS (0 to 64); NONE: others.");
        dueAll("rings", row(x.rings(0), x.rings(4), x.rings(5), x.rings(63), x.rings(64)), 1, 1, 0, 0, 0);
        for (int n : outside(0, 64)) due("rings(" + n + ")", x.rings(n), -1);
        rang(0);
        dueAll("none is LEFT", row(x.often(0), x.often(1), x.rings(0), x.rings(64), x.rings(65)), -1, -1, 0, 0, -1);
    }

    private static void p30to35() {
        says("`int vote(int weights, int thing, int what)`: VOTE of a THING by WEIGHTS, what 0: above, 1: below; NONE: others.");
        startFull();
        String before = state();
        for (int w : outside(0, 26)) due("vote of " + w, x.vote(w, 0, 0), -1);
        for (int t : outside(0, 2)) due("vote, thing " + t, x.vote(14, t, 0), -1);
        for (int w : outside(0, 1)) due("vote, what " + w, x.vote(14, 0, w), -1);
        dueAll("vote", row(x.vote(26, 2, 0), x.vote(26, 2, 1)), 1, 3);
        says("`int swings(int weights, int thing)`: SWINGS of a THING by WEIGHTS; NONE: others.");
        for (int w : outside(0, 26)) due("swings of " + w, x.swings(w, 0), -1);
        for (int t : outside(0, 2)) due("swings, thing " + t, x.swings(14, t), -1);
        due("swings", x.swings(26, 2), 2);
        says("`int heavy(int weights, boolean light, int what)`: HEAVY (light true: LIGHT) by WEIGHTS, what 0: the SET, 1: its weight; NONE: others,"
                + " there is none.");
        for (int w : outside(0, 26)) dueAll("heavy of " + w, row(x.heavy(w, false, 0), x.heavy(w, true, 1)), -1, -1);
        for (int w : outside(0, 1)) dueAll("heavy, what " + w, row(x.heavy(14, false, w), x.heavy(14, true, w)), -1, -1);
        dueAll("there is none", row(x.heavy(0, true, 0), x.heavy(0, true, 1)), -1, -1);
        says("`int leastSet(int weights, int i)`: LEAST SETS by WEIGHTS: how many (i NONE), the i-th by its number; NONE: others, none such.");
        for (int w : outside(0, 26)) dueAll("leastSet of " + w, row(x.leastSet(w, -1), x.leastSet(w, 0)), -1, -1);
        dueAll("leastSet", row(x.leastSet(26, -1), x.leastSet(26, 0), x.leastSet(26, 2)), 3, 3, 6);
        for (int i : outside(-1, 2)) due("leastSet, i " + i, x.leastSet(26, i), -1);
        dueAll("none", row(x.leastSet(0, -1), x.leastSet(0, 0)), 0, -1);
        says("`int vetoes(int weights)`: THINGS that have a VETO by WEIGHTS, as bits; NONE: no such number.");
        for (int w : outside(0, 26)) due("vetoes of " + w, x.vetoes(w), -1);
        dueAll("vetoes", row(x.vetoes(0), x.vetoes(26), x.vetoes(14)), 7, 0, 1);
        says("`int same(int weights, int what)`: SAME, what 0: the sum, 1: the bar, 2: the number; NONE: others, there is none.");
        for (int w : outside(0, 26)) due("same of " + w, x.same(w, 0), -1);
        for (int w : outside(0, 2)) due("same, what " + w, x.same(14, w), -1);
        dueAll("there always is one", row(x.same(0, 0), x.same(26, 0), x.same(26, 1), x.same(26, 2)), 0, 3, 2, 13);
        dueText("state", state(), before);
    }

    private static void p36to38() {
        says("`int lay(int thing)`: A THING is laid on behind the others: how many lie there; NONE: none such, it lies there.");
        start(THREE);
        for (int t : outside(0, 2)) due("lay(" + t + ")", x.lay(t), -1);
        dueAll("lay", row(x.lay(1), x.lay(1), x.lay(0), x.lay(1), x.lay(2), x.lay(0), x.lay(2), x.lay(3)), 1, -1, 2, -1, 3, -1, -1, -1);
        due("so many lie there", x.count(8), 3);
        dueAll("in this order", row(x.feather(5), x.feather(11), x.feather(15)), 0, 2, 2);

        says("`boolean clear()`: The plate is empty: true.");
        due("clear", bit(x.clear()), 1);
        dueAll("empty", row(x.count(8), x.feather(26)), 0, -1);
        due("clear, nothing lies there", bit(x.clear()), 1);
        dueAll("each may be laid on again", row(x.lay(2), x.lay(1), x.lay(0), x.count(8)), 1, 2, 3, 3);
        due("another order", x.feather(26), 1);

        says("`int feather(int weights)`: FEATHER of what was laid on, by WEIGHTS; NONE: no such number, it does not RING.");
        for (int w : outside(0, 26)) due("feather(" + w + ")", x.feather(w), -1);
        dueAll("it does not RING", row(x.feather(0), x.feather(1), x.feather(13)), -1, -1, 0);
        x.clear();
        for (int w = 0; w < 27; w++) due("nothing lies there", x.feather(w), -1);
    }

    private static void p39to40() {
        says("`int odds(int set, int what)`: ODDS of a SET, what 0: above, 1: below; NONE: others, none is LEFT.");
        start(THREE);
        for (int s : outside(0, 7)) dueAll("odds of " + s, row(x.odds(s, 0), x.odds(s, 1)), -1, -1);
        for (int w : outside(0, 1)) due("odds, what " + w, x.odds(3, w), -1);
        dueAll("odds", row(x.odds(7, 0), x.odds(7, 1), x.odds(0, 0), x.odds(0, 1)), 17, 27, 0, 1);
        says("`int guess(int thing, int what)`: GUESS of a THING, what 0: the WEIGHT, 1: the least, 2: the greatest; NONE: others, none is LEFT.");
        for (int t : outside(0, 2)) dueAll("guess of " + t, row(x.guess(t, 0), x.guess(t, 1), x.guess(t, 2)), -1, -1, -1);
        for (int w : outside(0, 2)) due("guess, what " + w, x.guess(0, w), -1);
        dueAll("guess", row(x.guess(2, 0), x.guess(2, 1), x.guess(2, 2)), 0, 0, 2);
        rang(0);
        dueAll("none is LEFT", row(x.odds(3, 0), x.odds(3, 1), x.guess(0, 0), x.guess(0, 1), x.guess(0, 2)), -1, -1, -1, -1, -1);
    }

    private static void p41to42() {
        says("`boolean mark(int mark, boolean back)`: A MARK is laid (back: gone back to): true; false: none such, nothing is on it (back).");
        startFull();
        String before = state();
        for (int m : outside(0, 3)) dueAll("mark(" + m + ")", row(bit(x.mark(m, false)), bit(x.mark(m, true))), 0, 0);
        for (int m = 0; m < 4; m++) due("nothing is on it", bit(x.mark(m, true)), 0);
        dueText("state", state(), before);
        for (int m = 0; m < 4; m++) dueAll("laid, and gone back to", row(bit(x.mark(m, false)), bit(x.mark(m, true))), 1, 1);
        dueText("state", state(), before);
        silent(7);
        due("hint", x.hint(0, 0), 1);
        for (int m : outside(0, 3)) due("mark(" + m + ")", bit(x.mark(m, true)), 0);
        dueAll("no back, nothing gone", row(x.count(6), x.count(11)), 4, 2);
        due("back", bit(x.mark(3, true)), 1);
        dueText("state", state(), before);

        says("`int count(int what)`: What 0: THINGS, 1: most, 2: bar, 3: all WEIGHTS, 4: those that MAY be, 5: LISTS of these, 6: TRIALS, 7: of"
                + " these RANG, 8: THINGS laid on, 9: signs on the TAPE, 10: lines with allow, 11: HINTS. NONE for another what.");
        long[] got = new long[12];
        for (int i = 0; i < 12; i++) got[i] = x.count(i);
        dueAll("count", got, 3, 2, 3, 27, 26, 9, 3, 2, 2, 3, 1, 1);
        for (int w : outside(0, 11)) due("count(" + w + ")", x.count(w), -1);
        start(THREE + "allow sum < 5;");
        dueAll("without the heaviest", row(x.count(3), x.count(4), x.count(5)), 27, 23, 8);
        rang(7);
        due("hint", x.hint(0, 1), 0);
        dueAll("the BOOK does not count", row(x.left(0), x.count(4), x.count(5)), 0, 23, 8);
    }
}
