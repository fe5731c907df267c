import java.util.NoSuchElementException;

/** Each promise of the document by hand: ordinary inputs, the edges it names, and wrong inputs. */
public final class PromisesTest {
    private static int wrong = 0;
    private static int promise = 0;
    private static BellPlate x;

    /** 27 WEIGHTS and 9 LISTS: of the SETS only 3 (a b), 5 (a c), 6 (b c) and 7 may RING. */
    private static final String THREE = "thing a;thing b;thing c;most 2;bar 3;";
    private static final int[] ODD = {Integer.MIN_VALUE, -2, 3, 99, Integer.MAX_VALUE};

    private static void due(String call, long got, long want) {
        if (got != want) {
            wrong++;
            System.out.println("promise " + promise + ": " + call + " answered " + got + ", due is " + want);
        }
    }

    private static void dueAll(String call, long[] got, long... want) {
        for (int i = 0; i < want.length; i++) due(call + " #" + i, got[i], want[i]);
        due(call + " rows", got.length, want.length);
    }

    private static long bit(boolean b) {
        return b ? 1 : 0;
    }

    private static void feed(String text) {
        for (int i = 0; i < text.length(); i += 24) {
            long[] v = new long[3];
            for (int k = 0; k < 24; k++) {
                v[k / 8] = v[k / 8] << 8 | (i + k < text.length() ? text.charAt(i + k) : 0);
            }
            x.feed(v[0], v[1], v[2]);
        }
    }

    private static int read(String text) {
        feed(text);
        return x.tower();
    }

    private static void start(int number, String text) {
        promise = number;
        x = new BellPlate();
        due("tower [" + text + "]", read(text), 0);
    }

    private static void fault(String text, int kind, int place) {
        due("tower [" + text + "]", read(text), kind + 16 * place);
    }

    /** 1 if run throws as promised, 0 if it answers. */
    private static int throwsIt(int weights, int way, int what) {
        try {
            x.run(weights, way, what);
        } catch (NoSuchElementException e) {
            return 1;
        }
        return 0;
    }

    private static void p1() {
        promise = 1;
        x = new BellPlate();
        long[] counts = new long[12];
        for (int i = 0; i < 12; i++) counts[i] = x.count(i);
        dueAll("count", counts, 0, 3, 10, 1, 1, 1, 0, 0, 0, 0, 0, 0);
        due("list(0)", x.list(0), 0);
        due("may(0)", x.may(0), 1);
        due("sure(0)", x.sure(0), 0);
        due("cost(0)", x.cost(0), 1);
        due("left(2)", x.left(2), 0);
        due("run(0, 2, 2)", x.run(0, 2, 2), 0);
        due("vote(0, 0, 0)", x.vote(0, 0, 0), -1);
        due("guess(0, 0)", x.guess(0, 0), -1);
        due("odds(0, 1)", x.odds(0, 1), 1);
        due("mark(0, back)", bit(x.mark(0, true)), 0);
        due("trial(0, false)", x.trial(0, false), 0);
        due("left(0)", x.left(0), 1);
        due("trial(0, true)", x.trial(0, true), 1);
        due("left(0)", x.left(0), 0);
        due("tower()", x.tower(), 0);
        due("NONE", BellPlate.NONE, -1);
    }

    private static void p2() {
        promise = 2;
        x = new BellPlate();
        due("nothing", x.feed(0, 0, 0), 0);
        due("10, 9, 31, 32, 126, 127, 128, 255", x.feed(0x0a091f207e7f80ffL, 0, 0), 3);
        due("tower", x.tower(), 1 + 16 * 2);
        due("order", x.feed(0x6d6f737420L, 0x37L << 56, 0x3bL), 7);
        due("tower", x.tower(), 0);
        due("most", x.count(1), 7);
        for (int i = 0; i < 41; i++) x.feed(0x2020202020202020L, 0x2020202020202020L, 0x2020202020202020L);
        due("984", x.count(9), 984);
        due("full", x.feed(0x2020202020202020L, 0x2020202020202020L, 0x7878787878787878L), 1000);
        due("stays", x.feed(0x7878787878787878L, 0, 0), 1000);
        due("tower", x.tower(), 0);
        due("taken", x.count(9), 0);
    }

    private static void p3() {
        promise = 3;
        x = new BellPlate();
        due("blanks", read(" \n  "), 0);
        due("close", read("thing\nabcdefgh;most2;bar60;allow1;cost0;"), 0);
        due("bar", x.count(2), 60);
        due("digits", read("most 0009;bar 0001;"), 0);
        due("most", x.count(1), 9);
        fault("thing abcdefghi;", 1, 6);
        fault("thing A;", 1, 6);
        fault("thing 1;", 1, 6);
        fault("thing", 1, 5);
        fault("thing   ", 1, 8);
        fault("thing a", 1, 7);
        fault("thing a b", 1, 8);
        fault("Thing a;", 1, 0);
        fault(";", 1, 0);
        for (String word : new String[] {"thing", "most", "bar", "allow", "cost", "not", "and", "or", "sum", "size"}) {
            fault("thing " + word + ";", 1, 6);
            if (!word.equals("not") && !word.equals("sum")) fault("allow " + word + ";", 1, 6);
            if (!word.equals("not") && !word.equals("size")) fault("cost " + word + ";", 1, 5);
        }
        fault("thing a;thing a;", 3, 14);
        fault("thing a;thing b;allow a;thing a;", 3, 30);
        fault("most 0;", 4, 5);
        fault("most 10;", 4, 5);
        fault("most x;", 1, 5);
        fault("most 00001;", 1, 5);
        fault("most 1 2;", 1, 7);
        fault("most 1;most 0;", 3, 7);
        fault("bar 0;", 4, 4);
        fault("bar 61;", 4, 4);
        fault("bar 1;bar 1;", 3, 6);
        fault("cost 1;cost 1;", 3, 7);
        fault("allow 1;allow 1;allow 1;allow 1;allow ?;", 5, 32);
        fault("thing a;thing b;thing c;thing d;thing e;thing f;thing a;", 5, 48);
        fault("allow a;thing a;", 2, 6);
        fault("allow 1 a;", 1, 8);
        fault("allow 1 + ;", 1, 10);
        fault("allow - 1;", 1, 6);
        fault("allow 1 < 2 < 3;", 1, 12);
        fault("allow 1 < 2 = 3;", 1, 12);
        fault("allow 1 <= 2;", 1, 9);
        fault("allow 1 and;", 1, 11);
        fault("allow 1 not 1;", 1, 8);
        fault("allow ();", 1, 7);
        fault("allow (1;", 1, 8);
        fault("allow 1);", 1, 7);
        fault("allow (1", 1, 8);
        fault("allow 12345;", 1, 6);
        fault("allow 1 / 2;", 1, 8);
        fault("allow ((((( 1", 5, 12);
        fault("allow (((((( 1", 5, 11);
        fault("allow not(not(not 1", 5, 18);
        fault("allow not not not not not not 1;", 5, 26);
        fault("allow not not not not not x;", 2, 26);
        fault("allow not not not not not ;", 1, 26);
        fault("allow not not not not not size;", 1, 26);
        due("four deep", read("thing a;allow not not not not a;"), 0);
        due("four deep", read("cost ((((size)))) + ((((1))));"), 0);
        fault("thing a;thing b;thing c;thing d;thing e;most 6;", 6, 47);
        fault("thing a;thing b;thing c;thing d;thing e;thing f;most 5; ", 6, 56);
        fault("thing a;thing b;thing c;thing d;thing e;thing f;most 5", 1, 54);
        due("all stays", x.count(0), 0);
        due("15625", read("thing a;thing b;thing c;thing d;thing e;thing f;most 4;"), 0);
        due("count(3)", x.count(3), 15625);
        due("trial", x.trial(1, false), 0);
        due("hint", x.hint(1, 0), 0);
        due("mark", bit(x.mark(1, false)), 1);
        due("lay", x.lay(0), 1);
        fault("thing", 1, 5);
        long[] kept = {x.count(0), x.count(6), x.count(11), x.count(8), bit(x.mark(1, true))};
        dueAll("kept at a fault", kept, 6, 1, 1, 1, 1);
        due("new", read("thing a;"), 0);
        long[] gone = {x.count(0), x.count(6), x.count(11), x.count(8), bit(x.mark(1, true)), x.count(1), x.count(2)};
        dueAll("gone with a tower", gone, 1, 0, 0, 0, 0, 3, 10);
    }

    private static void p4() {
        start(4, "thing a;thing b;most 3;allow a < b + 1 and sum < 5;allow not (a = 2);");
        long[] got = new long[16];
        for (int w = 0; w < 16; w++) got[w] = x.may(w);
        dueAll("may", got, 1, 0, 0, 0, 1, 1, 0, 0, 1, 1, 0, 0, 1, 1, 0, 0);
        due("may(-1)", x.may(-1), -1);
        due("may(16)", x.may(16), -1);
        for (int odd : new int[] {Integer.MIN_VALUE, Integer.MAX_VALUE}) due("may", x.may(odd), -1);
        start(4, "thing a;allow 9999 * 9999 * 9999 < 0;allow a - 1;allow 0 or a and 2 or 0;");
        due("wraps", x.may(1), 0);
        start(4, "thing a;allow 9999 * 9999 * 99 < 0 - 1;allow 2 - a * 2 + 0 - 0;");
        dueAll("may", new long[] {x.may(0), x.may(1), x.may(2)}, wraps(), 0, wraps());
        start(4, "thing a;allow 0 and 0 or 1 ; allow 1 or 1 and a;");
        dueAll("from the left", new long[] {x.may(0), x.may(1)}, 0, 1);
    }

    private static long wraps() {
        return 9999 * 9999 * 99 < -1 ? 1 : 0;
    }

    private static void p5() {
        start(5, THREE);
        int[] ask = {0, 5, 11, 13, 14, 15, 16, 26, 22};
        long[] got = new long[9];
        for (int i = 0; i < 9; i++) got[i] = x.list(ask[i]);
        dueAll("list", got, 0, 136, 160, 128, 168, 192, 200, 232, 224);
        due("list(-1)", x.list(-1), 0);
        due("list(27)", x.list(27), 0);
        start(5, "thing a;thing b;thing c;thing d;thing e;thing f;most 1;bar 1;allow sum = 0;");
        due("all but none, though they may not be", x.list(63), -2);
        due("thing 5", x.list(32), 0xffffffff00000000L);
    }

    private static void p6() {
        start(6, THREE);
        due("without", x.cost(7), 1);
        start(6, "thing a;thing b;cost 5 - size * 3 + b * 2;thing c;");
        long[] got = new long[8];
        for (int s = 0; s < 8; s++) got[s] = x.cost(s);
        dueAll("cost", got, 5, 2, 4, 1, 2, 0, 1, 0);
        due("cost(-1)", x.cost(-1), -1);
        due("cost(8)", x.cost(8), -1);
        start(6, "cost 7;");
        due("none", x.cost(0), 7);
    }

    private static void p7() {
        start(7, THREE);
        due("trial(8, true)", x.trial(8, true), -1);
        due("trial(-1, true)", x.trial(-1, true), -1);
        for (int i = 0; i < 60; i++) due("trial", x.trial(i % 8, i % 2 == 0), i);
        due("61st", x.trial(0, false), -1);
        due("count(6)", x.count(6), 60);
    }

    private static void p8() {
        start(8, THREE);
        due("k -1", x.hint(-1, 0), -1);
        due("k 4", x.hint(4, 0), -1);
        due("sets -1", x.hint(0, -1), -1);
        due("sets 65", x.hint(0, 65), -1);
        due("hint", x.hint(2, 1), 0);
        dueAll("left", new long[] {x.left(0), x.left(1), x.left(2)}, 9, 3, 5);
        due("k 3", x.hint(3, 1), 1);
        due("left", x.left(0), 9);
        due("sets 64", x.hint(1, 64), 2);
        due("left", x.left(0), 0);
        for (int i = 3; i < 8; i++) due("hint", x.hint(0, 0), i);
        due("ninth", x.hint(0, 0), -1);
        due("count", x.count(11), 8);
    }

    private static void p9() {
        start(9, THREE);
        dueAll("left", new long[] {x.left(0), x.left(1), x.left(2), x.left(3), x.left(-1)}, 27, 9, 0, -1, -1);
        x.trial(3, true);
        dueAll("left", new long[] {x.left(0), x.left(1), x.left(2)}, 9, 4, 5);
        x.trial(5, false);
        dueAll("left", new long[] {x.left(0), x.left(1), x.left(2)}, 4, 2, 5);
        x.trial(3, false);
        dueAll("left", new long[] {x.left(0), x.left(1), x.left(2)}, 0, 0, -1);
        start(9, "thing a;thing b;most 2;bar 2;allow b;");
        dueAll("left", new long[] {x.left(0), x.left(1), x.left(2)}, 6, 5, 3);
    }

    private static void p10() {
        start(10, THREE);
        x.trial(6, true);
        long[] got = new long[8];
        for (int s = 0; s < 8; s++) got[s] = x.sure(s);
        dueAll("sure", got, 0, 0, 0, 2, 0, 2, 1, 1);
        due("sure(8)", x.sure(8), -1);
        due("sure(-1)", x.sure(-1), -1);
        x.trial(1, true);
        due("none left", x.sure(0), -1);
    }

    private static void p11() {
        start(11, THREE);
        due("open", x.matters(0), 2);
        x.trial(6, true);
        dueAll("matters", new long[] {x.matters(0), x.matters(1), x.matters(2)}, 2, 1, 1);
        x.hint(2, 1);
        due("by none", x.matters(0), 0);
        due("no such", x.matters(3), -1);
        due("no such", x.matters(-1), -1);
        x.trial(0, true);
        due("none left", x.matters(0), -1);
    }

    private static void p12() {
        start(12, THREE);
        due("open", x.alike(0, 1), 2);
        x.trial(5, true);
        x.trial(6, true);
        due("all", x.alike(0, 1), 1);
        due("and back", x.alike(1, 0), 1);
        due("open", x.alike(0, 2), 2);
        x.trial(3, false);
        due("none", x.alike(2, 0), 0);
        due("same", x.alike(1, 1), -1);
        due("no such", x.alike(0, 3), -1);
        due("no such", x.alike(-1, 0), -1);
        x.trial(0, true);
        due("none left", x.alike(0, 1), -1);
    }

    private static void p13() {
        start(13, THREE);
        dueAll("next", new long[] {x.next(-1), x.next(0), x.next(1), x.next(2), x.next(3)}, -1, 3, 3, 3, -1);
        x.trial(3, false);
        dueAll("next", new long[] {x.next(0), x.next(1), x.next(2)}, 5, 5, 5);
        start(13, "thing a;thing b;thing c;most 2;bar 3;cost 4 - size + a;");
        dueAll("cheap", new long[] {x.next(0), x.next(1), x.next(2)}, 3, 3, 6);
        start(13, "thing a;thing b;most 2;bar 2;allow a < b + 1;");
        dueAll("unlike", new long[] {x.next(0), x.next(1)}, 2, 1);
        x.trial(1, true);
        due("none parts", x.next(0), -1);
        x.trial(1, false);
        due("none left", x.next(1), -1);
    }

    private static void p14() {
        start(14, THREE);
        dueAll("fewest", new long[] {x.fewest(0), x.fewest(1), x.fewest(2), x.fewest(-1)}, 4, 3, -1, -1);
        x.trial(7, false);
        dueAll("one", new long[] {x.fewest(0), x.fewest(1)}, 0, -1);
        x.trial(7, true);
        dueAll("none", new long[] {x.fewest(0), x.fewest(1)}, -1, -1);
        start(14, "thing a;thing b;thing c;most 9;bar 12;allow sum < 13;");
        due("lists", x.left(1), 5);
        start(14, "thing a;thing b;thing c;thing d;most 1;bar 1;allow a or b;");
        dueAll("twelve", new long[] {x.left(1), x.fewest(0), x.fewest(1)}, 12, 4, 1);
        start(14, "thing a;thing b;thing c;thing d;most 1;bar 1;allow a or b or c and 1;");
        dueAll("more", new long[] {x.left(1), x.fewest(0)}, 14, -1);
    }

    private static void p15() {
        start(15, THREE);
        dueAll("list", new long[] {x.fewestFor(0, -5, 0), x.fewestFor(0, 77, 1)}, 4, 3);
        dueAll("matters", new long[] {x.fewestFor(1, 0, 0), x.fewestFor(1, 0, 1)}, 3, 3);
        dueAll("alike", new long[] {x.fewestFor(2, 1, 0), x.fewestFor(2, 1, 1), x.fewestFor(2, 6, 1)}, 2, 5, 5);
        dueAll("rings", new long[] {x.fewestFor(3, 5, 0), x.fewestFor(3, 5, 1)}, 1, 5);
        dueAll("sure", new long[] {x.fewestFor(3, 1, 0), x.fewestFor(3, 1, 1)}, 0, -1);
        dueAll("how many", new long[] {x.fewestFor(4, 9, 0), x.fewestFor(4, 0, 1)}, 4, 3);
        due("question 5", x.fewestFor(5, 0, 0), -1);
        due("question -1", x.fewestFor(-1, 0, 0), -1);
        due("what 2", x.fewestFor(0, 0, 2), -1);
        for (int odd : ODD) due("thing", x.fewestFor(1, odd, 0), -1);
        for (int odd : new int[] {-1, -6, -7, 0, 7, 14, 3, 18, 21, 36, Integer.MIN_VALUE, Integer.MAX_VALUE}) {
            due("two things " + odd, x.fewestFor(2, odd, 0), -1);
        }
        for (int odd : new int[] {-1, 8, Integer.MIN_VALUE}) due("set", x.fewestFor(3, odd, 0), -1);
        x.trial(0, true);
        due("none left", x.fewestFor(3, 0, 0), -1);
    }

    private static void p16() {
        start(16, THREE);
        dueAll("run", new long[] {x.run(26, 0, 0), x.run(26, 0, 1), x.run(26, 0, 2)}, 3, 3, 3);
        dueAll("run", new long[] {x.run(0, 0, 0), x.run(0, 0, 1), x.run(0, 0, 2)}, 4, 0, 4);
        for (int odd : new int[] {-1, 3, Integer.MIN_VALUE}) {
            due("way", throwsIt(0, odd, 0), 1);
            due("what", throwsIt(0, 0, odd), 1);
        }
        due("number", throwsIt(-1, 0, 0), 1);
        due("number", throwsIt(27, 0, 0), 1);
        x.trial(3, true);
        due("not left", throwsIt(0, 0, 0), 1);
        due("left", throwsIt(26, 0, 0), 0);
        due("run", x.run(26, 0, 0), 2);
        due("the book stays", x.count(6), 1);
        start(16, "thing a;thing b;thing c;thing d;thing e;thing f;most 1;bar 1;cost 6 - size;");
        dueAll("60 at most", new long[] {x.run(63, 2, 0), x.run(63, 2, 1), x.run(63, 2, 2)}, 60, 60, 6 + 30 + 60 + 60 + 15);
        start(16, "thing a;thing b;most 2;bar 2;allow b;");
        due("may not be", throwsIt(0, 0, 0), 1);
    }

    private static void p17() {
        start(17, THREE);
        dueAll("runSet", new long[] {x.runSet(26, 0, 0), x.runSet(26, 0, 1), x.runSet(26, 0, 2), x.runSet(26, 0, 3)}, 3, 5, 6, -1);
        dueAll("runSet", new long[] {x.runSet(0, 0, 2), x.runSet(0, 0, 3), x.runSet(0, 0, 4), x.runSet(0, 0, -1)}, 6, 7, -1, -1);
        due("way", x.runSet(0, 3, 0), -1);
        due("number", x.runSet(27, 0, 0), -1);
        x.trial(3, true);
        due("not left", x.runSet(0, 0, 0), -1);
        due("from the book on", x.runSet(26, 0, 0), 5);
    }

    private static void p18() {
        start(18, THREE);
        dueAll("worst", new long[] {x.worst(0), x.worst(1), x.worst(2), x.worst(3), x.worst(-1)}, 4, 4, 4, -1, -1);
        x.trial(3, true);
        due("by the book", x.worst(0), 2);
        x.trial(0, true);
        due("none left", x.worst(0), -1);
        start(18, "thing a;thing b;thing c;thing d;thing e;thing f;most 1;bar 1;cost 6 - size;");
        dueAll("worst", new long[] {x.worst(0), x.worst(2)}, 6, 60);
    }

    private static void p19() {
        start(19, THREE);
        dueAll("mean", new long[] {x.mean(0, 0), x.mean(0, 1)}, 92, 27);
        dueAll("others", new long[] {x.mean(3, 0), x.mean(-1, 0), x.mean(0, 2), x.mean(0, -1)}, -1, -1, -1, -1);
        x.trial(3, true);
        dueAll("lowest terms", new long[] {x.mean(0, 0), x.mean(0, 1)}, 2, 1);
        x.trial(5, false);
        x.trial(6, false);
        dueAll("nothing to do", new long[] {x.mean(0, 0), x.mean(0, 1)}, 0, 1);
        x.trial(0, true);
        due("none left", x.mean(0, 1), -1);
    }

    private static void p20() {
        start(20, THREE);
        dueAll("no trials", new long[] {x.smallest(0), x.smallest(1), x.smallest(2)}, 0, 1, 0);
        x.trial(3, true);
        x.trial(5, false);
        dueAll("smallest", new long[] {x.smallest(0), x.smallest(1), x.smallest(2)}, 1, 1, 3);
        x.trial(2, false);
        dueAll("smallest", new long[] {x.smallest(0), x.smallest(1), x.smallest(2)}, 2, 2, 4);
        dueAll("others", new long[] {x.smallest(-1), x.smallest(3)}, -1, -1);
        x.hint(0, 5);
        due("hints don't count", x.smallest(0), 2);
        x.trial(3, false);
        due("none", x.smallest(0), -1);
        start(20, "thing a;thing b;most 1;bar 1;allow b < 0;");
        x.trial(2, true);
        x.trial(1, false);
        dueAll("though they may not be", new long[] {x.smallest(0), x.smallest(2)}, 1, 2);
        start(20, "thing a;");
        x.trial(0, true);
        due("nothing weighs nothing", x.smallest(0), -1);
        start(20, "thing a;thing b;thing c;most 2;");
        x.trial(3, true);
        x.trial(5, true);
        x.trial(6, false);
        x.trial(1, false);
        dueAll("just so", new long[] {x.smallest(0), x.smallest(1), x.smallest(2)}, 4, 3, 14);
        start(20, "thing a;thing b;thing c;thing d;thing e;");
        int[] sets = {4, 11, 5, 19, 2};
        for (int s : sets) x.trial(s, s > 10);
        dueAll("the bar ahead of the number", new long[] {x.smallest(0), x.smallest(1), x.smallest(2)}, 2, 1, 320);
        start(20, "thing a;thing b;most 1;");
        x.trial(3, true);
        x.trial(1, false);
        x.trial(2, false);
        dueAll("both", new long[] {x.smallest(0), x.smallest(1), x.smallest(2)}, 2, 2, 3);
        start(20, "thing a;thing b;thing c;most 1;");
        for (int s : new int[] {3, 5, 6}) x.trial(s, true);
        for (int s : new int[] {1, 2, 4}) x.trial(s, false);
        dueAll("any two", new long[] {x.smallest(0), x.smallest(1), x.smallest(2)}, 3, 2, 7);
        x.trial(0, true);
        due("most is too small for none", x.smallest(0), -1);
        start(20, "thing a;thing b;thing c;most 1;");
        for (int s : new int[] {3, 5}) x.trial(s, true);
        for (int s : new int[] {1, 6}) x.trial(s, false);
        due("not with 0 to 1", x.smallest(0), -1);
    }

    private static void p21() {
        start(21, THREE);
        x.trial(3, false);
        x.trial(1, true);
        dueAll("one pair", new long[] {x.cannot(0), x.cannot(1), x.cannot(2), x.cannot(4), x.cannot(5)}, 1, 1, -1, 0, -1);
        dueAll("others", new long[] {x.cannot(-1), x.cannot(7)}, -1, -1);
        start(21, "thing a;thing b;thing c;thing d;most 1;");
        due("can be", x.cannot(0), -1);
        x.trial(3, true);
        x.trial(5, false);
        x.trial(3, true);
        x.trial(10, false);
        due("can be", x.cannot(0), -1);
        x.trial(12, true);
        long[] two = {x.cannot(0), x.cannot(1), x.cannot(2), x.cannot(3), x.cannot(4), x.cannot(5), x.cannot(6)};
        dueAll("two pairs", two, 2, 0, 4, -1, 1, 3, -1);
        start(21, "thing a;thing b;thing c;thing d;thing e;thing f;most 1;");
        // a b d, b c e and c a f against a b f, b c d and c a e: each THING as often.
        int[] sets = {11, 22, 37, 35, 14, 21};
        for (int i = 0; i < 6; i++) x.trial(sets[i], i < 3);
        long[] three = new long[7];
        for (int i = 0; i < 7; i++) three[i] = x.cannot(i);
        dueAll("three pairs", three, 3, 0, 1, 2, 3, 4, 5);
        start(21, "thing a;thing b;most 1;");
        x.trial(1, true);
        x.trial(1, true);
        x.trial(2, true);
        x.trial(0, true);
        due("no other", x.cannot(0), -1);
        x.trial(3, false);
        dueAll("the first", new long[] {x.cannot(0), x.cannot(1), x.cannot(4)}, 1, 0, 4);
        start(21, "thing a;thing b;thing c;thing d;thing e;thing f;most 1;");
        // a b c twice and d e f against a b d, b c e and a c f.
        x.trial(7, true);
        x.trial(56, true);
        x.trial(11, false);
        x.trial(22, false);
        x.trial(37, false);
        for (int i = 0; i < 7; i++) three[i] = x.cannot(i);
        dueAll("twice the same", three, 3, 0, 0, 1, 2, 3, 4);
    }

    private static void p22() {
        start(22, THREE);
        dueAll("no trials", new long[] {x.wrong(0), x.wrong(1), x.wrong(2), x.wrong(-1)}, 0, 27, -1, -1);
        x.trial(1, true);
        x.trial(3, false);
        dueAll("wrong", new long[] {x.wrong(0), x.wrong(1)}, 1, 18);
        x.trial(1, true);
        x.hint(0, 3);
        dueAll("each counts", new long[] {x.wrong(0), x.wrong(1)}, 2, 18);
        start(22, THREE);
        for (int i = 0; i < 60; i++) x.trial(0, true);
        dueAll("all wrong", new long[] {x.wrong(0), x.wrong(1), x.with(59), x.with(60), x.suspect(59)}, 60, 27, 0, 27, 1);
        start(22, "thing a;allow 0;");
        dueAll("none may be", new long[] {x.wrong(0), x.wrong(1)}, -1, -1);
    }

    private static void p23() {
        start(23, THREE);
        x.trial(1, true);
        x.trial(3, false);
        dueAll("suspect", new long[] {x.suspect(0), x.suspect(1), x.suspect(2), x.suspect(-1)}, 1, 0, -1, -1);
        x.trial(7, true);
        x.trial(7, false);
        dueAll("either", new long[] {x.suspect(2), x.suspect(3)}, 0, 0);
        x.trial(7, true);
        dueAll("the odd one", new long[] {x.suspect(2), x.suspect(3), x.suspect(4)}, 0, 1, 0);
        start(23, "thing a;allow 0;");
        x.trial(0, true);
        due("none may be", x.suspect(0), -1);
    }

    private static void p24() {
        start(24, THREE);
        x.trial(1, true);
        x.trial(3, false);
        dueAll("with", new long[] {x.with(0), x.with(1), x.with(2), x.with(60), x.with(61), x.with(-1)}, 0, 18, 27, 27, -1, -1);
        start(24, "thing a;allow 0;");
        due("none may be", x.with(3), 0);
    }

    private static void p25() {
        start(25, THREE);
        due("no trials", x.grown(0), -1);
        x.trial(3, false);
        due("without", x.grown(0), -1);
        x.trial(3, true);
        dueAll("grown", new long[] {x.grown(0), x.grown(1), x.grown(2), x.grown(3), x.grown(-1)}, 1, 1, 0, -1, -1);
        x.trial(1, false);
        x.trial(5, false);
        dueAll("still a", new long[] {x.grown(0), x.grown(1), x.grown(2)}, 1, 1, 0);
        x.trial(1, false);
        x.trial(4, true);
        due("two grew", x.grown(0), -1);
        start(25, "thing a;thing b;most 1;bar 6;");
        x.trial(2, true);
        dueAll("by 5", new long[] {x.grown(0), x.grown(1), x.grown(2)}, 5, 0, 1);
        start(25, "thing a;thing b;most 1;bar 7;");
        x.trial(2, true);
        due("not by 6", x.grown(0), -1);
        start(25, THREE);
        x.trial(3, true);
        x.trial(3, false);
        due("nothing shrinks", x.grown(0), -1);
    }

    private static void p26() {
        start(26, THREE);
        due("none", x.bells(), 0);
        x.trial(7, false);
        due("none rang", x.bells(), 0);
        start(26, THREE);
        x.trial(3, true);
        due("one", x.bells(), 1);
        x.hint(3, 0);
        due("hints don't count", x.bells(), 1);
        x.trial(3, false);
        due("not by two", x.bells(), -1);
        start(26, "thing a;thing b;thing c;thing d;most 2;bar 3;");
        int[] rang = {3, 12};
        int[] not = {5, 6, 9, 10};
        for (int s : rang) x.trial(s, true);
        for (int s : not) x.trial(s, false);
        due("two", x.bells(), 2);
        start(26, "thing a;thing b;thing c;thing d;thing e;thing f;most 1;bar 2;");
        for (int s : new int[] {3, 12, 48}) x.trial(s, true);
        for (int s : new int[] {5, 6, 9, 10, 17, 18, 33, 34, 20, 24, 36, 40}) x.trial(s, false);
        due("three are needed", x.bells(), -1);
        start(26, "thing a;bar 1;allow 0;");
        due("none may be", x.bells(), 0);
        x.trial(1, true);
        due("none may be", x.bells(), -1);
    }

    private static void p27() {
        start(27, THREE);
        x.trial(7, false);
        x.trial(0, true);
        x.trial(0, false);
        long[] got = new long[6];
        for (int n = 0; n < 6; n++) got[n] = x.late(n, 0);
        dueAll("late", got, 0, 17, 10, 27, 27, 27);
        dueAll("the n", new long[] {x.late(4, 1), x.late(0, 1)}, 4, 0);
        dueAll("best", new long[] {x.late(-1, 0), x.late(-1, 1)}, 27, 3);
        dueAll("others", new long[] {x.late(6, 0), x.late(-2, 0), x.late(0, 2), x.late(0, -1)}, -1, -1, -1, -1);
        start(27, "thing a;allow 0;");
        dueAll("none may be", new long[] {x.late(0, 0), x.late(-1, 1)}, 0, 0);
    }

    private static void p28() {
        start(28, THREE);
        dueAll("often", new long[] {x.often(0), x.often(1), x.often(2), x.often(-1)}, 0, 4, -1, -1);
        x.trial(3, true);
        dueAll("often", new long[] {x.often(0), x.often(1)}, 2, 4);
        x.trial(0, true);
        dueAll("none left", new long[] {x.often(0), x.often(1)}, -1, -1);
        start(28, "thing a;thing b;thing c;thing d;thing e;thing f;most 1;bar 1;");
        due("all but one", x.often(1), 63);
    }

    private static void p29() {
        start(29, THREE);
        long[] got = new long[6];
        for (int n = 0; n < 6; n++) got[n] = x.rings(n);
        dueAll("rings", got, 1, 1, 3, 3, 1, 0);
        dueAll("others", new long[] {x.rings(-1), x.rings(65), x.rings(64)}, -1, -1, 0);
        x.trial(0, true);
        due("none left", x.rings(0), 0);
    }

    private static void p30() {
        start(30, THREE);
        dueAll("vote", new long[] {x.vote(14, 0, 0), x.vote(14, 0, 1), x.vote(14, 1, 0), x.vote(14, 1, 1)}, 2, 3, 1, 6);
        dueAll("never", new long[] {x.vote(0, 0, 0), x.vote(0, 0, 1)}, 0, 1);
        dueAll("dummy", new long[] {x.vote(8, 2, 0), x.vote(8, 2, 1), x.vote(8, 1, 0), x.vote(8, 1, 1)}, 0, 1, 1, 2);
        dueAll("others", new long[] {x.vote(27, 0, 0), x.vote(-1, 0, 0), x.vote(0, 3, 0), x.vote(0, -1, 0), x.vote(0, 0, 2)},
                -1, -1, -1, -1, -1);
        start(30, "thing a;bar 3;");
        dueAll("alone", new long[] {x.vote(3, 0, 0), x.vote(3, 0, 1)}, 1, 1);
    }

    private static void p31() {
        start(31, THREE);
        dueAll("swings", new long[] {x.swings(14, 0), x.swings(14, 1), x.swings(26, 2), x.swings(0, 0)}, 3, 1, 2, 0);
        dueAll("others", new long[] {x.swings(27, 0), x.swings(-1, 0), x.swings(0, 3), x.swings(0, -1)}, -1, -1, -1, -1);
    }

    private static void p32() {
        start(32, THREE);
        dueAll("heavy", new long[] {x.heavy(14, false, 0), x.heavy(14, false, 1)}, 1, 2);
        dueAll("light", new long[] {x.heavy(14, true, 0), x.heavy(14, true, 1)}, 3, 3);
        due("fewest things", x.heavy(22, false, 0), 4);
        due("least set", x.heavy(26, false, 0), 1);
        dueAll("none rings", new long[] {x.heavy(0, true, 0), x.heavy(0, true, 1)}, -1, -1);
        dueAll("none weighs", new long[] {x.heavy(0, false, 0), x.heavy(0, false, 1)}, 0, 0);
        dueAll("others", new long[] {x.heavy(27, true, 0), x.heavy(-1, true, 0), x.heavy(14, true, 2), x.heavy(14, true, -1)},
                -1, -1, -1, -1);
        start(32, "thing a;thing b;thing c;most 3;bar 3;");
        due("light, fewest things", x.heavy(1 + 4 * 2 + 16 * 3, true, 0), 4);
    }

    private static void p33() {
        start(33, THREE);
        dueAll("least", new long[] {x.leastSet(14, -1), x.leastSet(14, 0), x.leastSet(14, 1), x.leastSet(14, 2)}, 2, 3, 5, -1);
        dueAll("all", new long[] {x.leastSet(26, -1), x.leastSet(26, 2), x.leastSet(13, 0)}, 3, 6, 7);
        due("none", x.leastSet(0, -1), 0);
        dueAll("others", new long[] {x.leastSet(27, -1), x.leastSet(-1, -1), x.leastSet(14, -2)}, -1, -1, -1);
    }

    private static void p34() {
        start(34, THREE);
        dueAll("vetoes", new long[] {x.vetoes(14), x.vetoes(0), x.vetoes(26), x.vetoes(13), x.vetoes(8)}, 1, 7, 0, 7, 3);
        dueAll("others", new long[] {x.vetoes(27), x.vetoes(-1)}, -1, -1);
    }

    private static void p35() {
        start(35, THREE);
        dueAll("same", new long[] {x.same(26, 0), x.same(26, 1), x.same(26, 2)}, 3, 2, 13);
        dueAll("same", new long[] {x.same(14, 0), x.same(14, 1), x.same(14, 2)}, 4, 3, 14);
        dueAll("same", new long[] {x.same(8, 0), x.same(8, 1), x.same(8, 2)}, 2, 2, 4);
        dueAll("none rings", new long[] {x.same(6, 0), x.same(6, 1), x.same(6, 2)}, 0, 1, 0);
        dueAll("others", new long[] {x.same(27, 0), x.same(-1, 0), x.same(0, 3), x.same(0, -1)}, -1, -1, -1, -1);
    }

    private static void p36() {
        start(36, THREE);
        dueAll("lay", new long[] {x.lay(2), x.lay(2), x.lay(0), x.lay(3), x.lay(-1), x.lay(1), x.lay(1)}, 1, -1, 2, -1, -1, 3, -1);
        due("count(8)", x.count(8), 3);
    }

    private static void p37() {
        start(37, THREE);
        due("empty", bit(x.clear()), 1);
        x.lay(2);
        due("clear", bit(x.clear()), 1);
        dueAll("again", new long[] {x.count(8), x.lay(2)}, 0, 1);
    }

    private static void p38() {
        start(38, THREE);
        due("nothing lies", x.feather(26), -1);
        x.lay(2);
        x.lay(0);
        dueAll("feather", new long[] {x.feather(26), x.feather(14), x.feather(8), x.feather(0)}, 0, 0, -1, -1);
        x.lay(1);
        due("feather", x.feather(8), 1);
        dueAll("others", new long[] {x.feather(27), x.feather(-1)}, -1, -1);
    }

    private static void p39() {
        start(39, THREE);
        dueAll("odds", new long[] {x.odds(3, 0), x.odds(3, 1), x.odds(7, 0), x.odds(7, 1)}, 1, 3, 17, 27);
        dueAll("never", new long[] {x.odds(0, 0), x.odds(0, 1)}, 0, 1);
        x.trial(7, true);
        dueAll("sure", new long[] {x.odds(7, 0), x.odds(7, 1)}, 1, 1);
        dueAll("others", new long[] {x.odds(8, 0), x.odds(-1, 0), x.odds(3, 2), x.odds(3, -1)}, -1, -1, -1, -1);
        x.trial(7, false);
        due("none left", x.odds(3, 1), -1);
    }

    private static void p40() {
        start(40, THREE);
        dueAll("guess", new long[] {x.guess(0, 0), x.guess(0, 1), x.guess(0, 2)}, 0, 0, 2);
        x.trial(3, true);
        dueAll("guess", new long[] {x.guess(0, 0), x.guess(0, 1), x.guess(0, 2)}, 2, 1, 2);
        dueAll("free", new long[] {x.guess(2, 0), x.guess(2, 1), x.guess(2, 2)}, 0, 0, 2);
        dueAll("others", new long[] {x.guess(3, 0), x.guess(-1, 0), x.guess(0, 3), x.guess(0, -1)}, -1, -1, -1, -1);
        x.trial(3, false);
        due("none left", x.guess(0, 1), -1);
        start(40, "thing a;thing b;most 9;bar 9;");
        dueAll("up to 9", new long[] {x.guess(1, 0), x.guess(1, 1), x.guess(1, 2)}, 0, 0, 9);
        x.trial(1, true);
        dueAll("just 9", new long[] {x.guess(0, 0), x.guess(0, 1), x.guess(0, 2)}, 9, 9, 9);
    }

    private static void p41() {
        start(41, THREE);
        dueAll("no such", new long[] {bit(x.mark(4, false)), bit(x.mark(-1, false)), bit(x.mark(4, true))}, 0, 0, 0);
        due("nothing on it", bit(x.mark(3, true)), 0);
        x.trial(3, true);
        due("lay", bit(x.mark(3, false)), 1);
        x.trial(5, false);
        x.hint(0, 0);
        due("lay", bit(x.mark(0, false)), 1);
        x.trial(6, true);
        x.hint(3, 1);
        due("back", bit(x.mark(0, true)), 1);
        dueAll("what is there", new long[] {x.count(6), x.count(11), x.left(0)}, 2, 1, 4);
        due("back again", bit(x.mark(0, true)), 1);
        due("the earlier one", bit(x.mark(3, true)), 1);
        dueAll("what is there", new long[] {x.count(6), x.count(11), x.left(0)}, 1, 0, 9);
        due("laid behind it", bit(x.mark(0, true)), 0);
        due("itself", bit(x.mark(3, true)), 1);
        due("one", bit(x.mark(1, false)), 1);
        due("one more, at the same place", bit(x.mark(2, false)), 1);
        due("laid anew", bit(x.mark(1, false)), 1);
        due("the older one", bit(x.mark(2, true)), 1);
        due("the newer one is gone", bit(x.mark(1, true)), 0);
    }

    private static void p42() {
        start(42, "thing a;thing b;most 2;bar 2;allow b;allow a < 2;");
        x.trial(1, true);
        x.trial(3, false);
        x.trial(2, true);
        x.hint(1, 1);
        x.lay(1);
        feed("thing");
        long[] got = new long[14];
        for (int i = 0; i < 14; i++) got[i] = x.count(i - 1);
        dueAll("count", got, -1, 2, 2, 2, 9, 4, 3, 3, 2, 1, 5, 2, 1, -1);
    }

    public static void main(String[] args) {
        p1(); p2(); p3(); p4(); p5(); p6(); p7(); p8(); p9(); p10(); p11(); p12(); p13(); p14();
        p15(); p16(); p17(); p18(); p19(); p20(); p21(); p22(); p23(); p24(); p25(); p26(); p27(); p28();
        p29(); p30(); p31(); p32(); p33(); p34(); p35(); p36(); p37(); p38(); p39(); p40(); p41(); p42();
        System.out.println(wrong == 0 ? "all answers are as due" : wrong + " answers are not as due");
        if (wrong != 0) System.exit(1);
    }
}
