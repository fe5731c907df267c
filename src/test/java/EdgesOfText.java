/** The document's part 1: the TAPE, its TOKENS, what a TOWER may say, and the FAULTS. */
final class EdgesOfText extends Edges {
    private static final String[] WORDS = {"thing", "most", "bar", "allow", "cost", "not", "and", "or", "sum", "size"};
    private static final String SIX = "thing a;thing b;thing c;thing d;thing e;thing f;";

    static void all() {
        tape();
        tokens();
        words();
        lines();
        bounds();
        power();
        formulas();
        parts();
        within();
        truth();
        places();
        kinds();
        newTower();
    }

    private static void tape() {
        says("The TAPE has at most 1,000 signs, 10 and 32 .. 126;");
        for (int sign = 0; sign < 256; sign++) {
            x = new BellPlate();
            due("feed of the sign " + sign, x.feed(0, 0, sign), bit(sign == 10 || sign >= 32 && sign <= 126));
        }
        x = new BellPlate();
        due("999", feed(" ".repeat(999)), 999);
        due("1,000", feed(" "), 1000);
        due("one beyond", feed(" "), 1000);
        due("24 beyond", feed(" ".repeat(24)), 1000);
        due("count(9)", x.count(9), 1000);
        due("tower()", x.tower(), 0);

        says("what reads it takes it: it is empty then.");
        x = new BellPlate();
        feed("bar 7;");
        due("tower()", x.tower(), 0);
        due("count(9) behind a TOWER", x.count(9), 0);
        due("feed", feed("bar"), 3);
        due("tower()", x.tower(), 1 + 16 * 3);
        due("count(9) behind a FAULT", x.count(9), 0);
        due("feed starts anew", feed("bar 9;"), 6);
        due("tower()", x.tower(), 0);
        due("bar", x.count(2), 9);
        due("nothing is there to be read again", x.tower(), 0);
        due("bar", x.count(2), 10);
    }

    private static void tokens() {
        says("TOKENS, each as long as can be, blanks (10, 32) between where one likes:");
        x = new BellPlate();
        fault("mostbar 3;", 1, 0);
        fault("thinga;", 1, 0);
        fault("bar 1 0;", 1, 6);
        fault("thing a b;", 1, 8);
        fine("bar 10;");
        fine("\n\n  thing\na \n;\n most \n\n2 ;bar\n5\n;  \n");
        dueAll("with many", row(x.count(0), x.count(1), x.count(2)), 1, 2, 5);
        fine("thing a;most2;bar5;allow(a)and(not(0))or a<2;cost(size)*2+a;");
        dueAll("with few", row(x.count(0), x.count(1), x.count(2), x.cost(1)), 1, 2, 5, 3);

        says("WORDS (letters a .. z, 8 at most),");
        fine("thing abcdefgh;thing abcdefgi;thing bbcdefgh;thing z;thing zz;thing zzzzzzzz;most 1;cost zzzzzzzz;");
        dueAll("told apart", row(x.count(0), x.cost(1), x.cost(31), x.cost(32)), 6, 0, 0, 1);
        fault("thing abcdefghi;", 1, 6);
        fault("thing aaaaaaaaa;", 1, 6);
        for (String odd : new String[] {"`", "{", "A", "Z", "@", "["}) fault("thing " + odd + ";", 1, 6);
        fault("thing aB;", 1, 7);

        says("NUMBERS (1 to 4 digits; a letter may stand right behind),");
        costs("9999", 9999);
        costs("0000", 0);
        costs("0010", 10);
        costs("1and 2or 0", 1);
        fault("cost 10000;", 1, 5);
        fault("cost 00001;", 1, 5);
        fault("cost 123456789012;", 1, 5);
        fault("cost 1size;", 1, 6);
        fault("thing a1;", 1, 7);
        fault("bar 5/;", 1, 5);
        fault("bar 5:;", 1, 5);
        fine("bar7;");
        due("bar", x.count(2), 7);
    }

    private static void words() {
        says("the signs ( ) < = + - * ; All else (a longer WORD or NUMBER, too, at its first sign) is none.");
        x = new BellPlate();
        for (char sign = 33; sign < 127; sign++) {
            boolean other = !(sign >= 'a' && sign <= 'z') && !(sign >= '0' && sign <= '9');
            if (other) fault("" + sign, 1, 0);
            if (other && "()<=+-*;".indexOf(sign) < 0) {
                fault("cost 1" + sign + "1;", 1, 6);
                fault("cost 1;" + sign, 1, 7);
            }
        }
        costs("(3)", 3);
        costs("1<2", 1);
        costs("1=2", 0);
        costs("1+2", 3);
        costs("2-1", 1);
        costs("2*3", 6);
        fault("cost 1 + abcdefghi;", 1, 9);
        fault("cost 1 + 12345;", 1, 9);
        fault("allowance 1;", 1, 0);
        fault("thing thingthing;", 1, 6);
        fault("bar 12345;", 1, 4);
        fault("cost (abcdefghi);", 1, 6);
        fault("cost not abcdefghi;", 1, 9);
        fault("cost (12345);", 1, 6);
        fault("cost not 12345;", 1, 9);
        fault("cost (?);", 1, 6);
        fine("");
        fault("abcdefghi", 1, 0);
        fine("");
        fault("12345", 1, 0);
        fine("");
        fault("?", 1, 0);
    }

    private static void lines() {
        says("TOWER: any number of thing NAME ; most N ; bar N ; allow E ; cost E ;");
        start("");
        start(" ");
        start("cost size * 2;bar 7;thing b;allow b < 2;most 2;thing a;allow a;");
        dueAll("in any order", row(x.count(0), x.count(1), x.count(2), x.count(10), x.count(4), x.cost(3)), 2, 2, 7, 2, 4, 4);
        fault(";", 1, 0);
        fault("thing a;;", 1, 8);
        fault("thing ;", 1, 6);
        fault("most ;", 1, 5);
        fault("bar ;", 1, 4);
        fault("allow ;", 1, 6);
        fault("cost ;", 1, 5);
        fault("thing a most 1;", 1, 8);
        fault("most 1 bar 1;", 1, 7);
        fault("bar 1", 1, 5);
        fault("allow 1", 1, 7);
        fault("cost 1", 1, 6);
        fault("thing", 1, 5);
        fault("a;", 1, 0);
        fault("1;", 1, 0);
        for (String word : new String[] {"not", "and", "or", "sum", "size"}) fault(word + " 1;", 1, 0);

        says("THINGS, 6 at most, numbered as told;");
        start("thing f;thing e;thing d;thing c;thing b;thing a;most 1;cost f + 2 * e + 4 * d + 8 * c + 16 * b + 32 * a;");
        due("six", x.count(0), 6);
        for (int s : new int[] {1, 2, 4, 8, 16, 32, 63}) due("cost(" + s + ")", x.cost(s), s);
        fault(SIX + "thing g;", 5, 48);
        fine(SIX + "most 1;");

        says("a NAME is another WORD than these, and than not, and, or, sum, size; no two are alike.");
        for (String word : WORDS) fault("thing " + word + ";", 1, 6);
        for (String word : WORDS) fine("thing " + word + "s;");
        for (String word : WORDS) fine("thing " + word.substring(1) + ";");
        fault("thing a;thing a;", 3, 14);
        fault("thing abcdefgh;thing b;thing abcdefgh;", 3, 29);
        fine("thing a;thing aa;thing aaa;");
    }

    private static void bounds() {
        says("most 1 to 9 (3 without), bar 1 to 60 (10 without), cost once each, allow 4 at most;");
        start("thing a;");
        dueAll("without", row(x.count(1), x.count(2), x.count(3), x.count(10), x.cost(1)), 3, 10, 4, 0, 1);
        start("thing a;most 1;bar 1;");
        dueAll("least", row(x.count(1), x.count(2), x.count(3)), 1, 1, 2);
        start("thing a;most 9;bar 60;");
        dueAll("greatest", row(x.count(1), x.count(2), x.count(3)), 9, 60, 10);
        start("most 0009;bar 0001;");
        dueAll("with zeros ahead", row(x.count(1), x.count(2)), 9, 1);
        for (String off : new String[] {"0", "00", "0000", "10", "11", "99", "9999"}) fault("most " + off + ";", 4, 5);
        for (String off : new String[] {"0", "0000", "61", "62", "100", "9999"}) fault("bar " + off + ";", 4, 4);
        fault("most 2;most 2;", 3, 7);
        fault("bar 2;most 2;bar 2;", 3, 13);
        fault("cost 1;thing a;cost 1;", 3, 15);
        fine("allow 1;allow 1;allow 1;allow 1;");
        due("four", x.count(10), 4);
        fault("allow 1;allow 1;allow 1;allow 1;allow 1;", 5, 32);
        fine("most 2;");
        dueAll("each TOWER anew", row(x.count(1), x.count(2), x.count(10)), 2, 10, 0);
        fine("bar 2;cost 5;");
        dueAll("each TOWER anew", row(x.count(1), x.count(2), x.cost(0)), 3, 2, 5);
        fine("allow 1;");
        dueAll("each TOWER anew", row(x.count(1), x.count(2), x.cost(0), x.count(10)), 3, 10, 1, 1);
    }

    private static void power() {
        says("(most + 1) to the power of THINGS is 16,384 at most.");
        int[] greatest = {9, 9, 9, 9, 9, 5, 4};
        for (int n = 0; n <= 6; n++) {
            for (int most = 1; most <= 9; most++) {
                x = new BellPlate();
                String text = things(n) + "most " + most + ";";
                if (most <= greatest[n]) {
                    fine(text);
                    int all = 1;
                    for (int t = 0; t < n; t++) all *= most + 1;
                    due("count(3) [" + text + "]", x.count(3), all);
                } else {
                    fault(text, 6, text.length());
                    fault("most " + most + ";" + things(n), 6, text.length());
                }
            }
        }
    }

    private static void formulas() {
        says("E: TEST { and TEST or or TEST }, from the left;");
        costs("1 or 1 and 0", 0);
        costs("0 and 0 or 1", 1);
        costs("1 or 0 and 0 or 0", 0);
        costs("1 and 0 or 1 and 1", 1);
        costs("2 < 1 or 1 = 1", 1);
        fault("cost 1 and;", 1, 10);
        fault("cost 1 or or 1;", 1, 10);
        fault("cost and 1;", 1, 5);
        fault("cost 1 1;", 1, 7);

        says("TEST: SUM, or SUM < SUM, or SUM = SUM; SUM: PRODUCT { + or - PRODUCT }; PRODUCT: PART { * PART };");
        costs("10 - 3 - 2", 5);
        costs("10 - 3 + 2", 9);
        costs("2 + 3 * 4", 14);
        costs("2 * 3 + 4", 10);
        costs("2 * 3 * 4 - 1", 23);
        costs("1 + 1 < 1 * 3", 1);
        costs("2 < 2", 0);
        costs("1 + 1 = 4 - 2", 1);
        costs("1 = 2", 0);
        costs("3 < 5 + 1 and 2", 1);
        fault("cost 1 < 2 < 3;", 1, 11);
        fault("cost 1 = 2 = 3;", 1, 11);
        fault("cost 1 < 2 = 3;", 1, 11);
        fault("cost 1 = 2 < 3;", 1, 11);
        for (String sign : new String[] {"<", "=", "+", "-", "*"}) {
            fault("cost 1 " + sign + ";", 1, 8);
            fault("cost " + sign + " 1;", 1, 5);
            fault("cost 1 " + sign + sign + " 1;", 1, 8);
        }
        costs("1" + "+1".repeat(496), 497);
        costs("1" + "-1".repeat(400) + "+1".repeat(90) + "+ 500", 191);
        costs("1" + "*1".repeat(496), 1);
        costs("0" + " or 0".repeat(197) + " or 1", 1);
        x = new BellPlate();
        for (int i = 1; i <= 5; i++) {
            fine("cost " + i + "+1".repeat(496) + ";");
            due("a long one behind another", x.cost(0), i + 496);
        }
    }

    private static void parts() {
        says("PART: a NUMBER, the NAME of a THING told ahead, in allow also sum, in cost also size, not PART, ( E );");
        start("thing a;thing b;most 1;cost a + 10 * b + 100 * size;");
        dueAll("cost", row(x.cost(0), x.cost(1), x.cost(2), x.cost(3)), 0, 101, 110, 211);
        start("thing a;allow sum + a = 4;");
        dueAll("may", row(x.may(0), x.may(1), x.may(2), x.may(3)), 0, 0, 1, 0);
        fault("allow a;thing a;", 2, 6);
        fault("thing b;cost b + a;thing a;", 2, 17);
        fault("cost sum;", 1, 5);
        fault("allow size;", 1, 6);
        for (String word : WORDS) {
            if (!word.equals("not") && !word.equals("sum")) fault("allow 1 + " + word + ";", 1, 10);
            if (!word.equals("not") && !word.equals("size")) fault("cost 1 + " + word + ";", 1, 9);
        }
        fault("cost not;", 1, 8);
        fault("cost 1 not 1;", 1, 7);
        fault("cost ();", 1, 6);
        fault("cost (1;", 1, 7);
        fault("cost (1", 1, 7);
        fault("cost 1);", 1, 6);
        fault("cost (1) 2;", 1, 9);
        fault("cost (1 (2));", 1, 8);
        costs("not 0 + 5", 6);
        costs("not (0 + 5)", 0);
        costs("not 0 * 3", 3);
        costs("not not 7", 1);
        costs("(1 or 1) + (2 and 2)", 2);
        costs("2 * (3 + 4)", 14);
        costs("10 - (3 - 2)", 9);
    }

    private static void within() {
        says("no PART lies within 5 of not and ( ).");
        costs("((((7))))", 7);
        costs("not not not not 7", 1);
        costs("not (not (7))", 1);
        costs("((((1)))) + ((((2)))) * not not not not 3", 3);
        costs("(not (not 1) + (not (1)))", 1);
        x = new BellPlate();
        fault("cost (((((7)))));", 5, 10);
        fault("cost ((((((7))))));", 5, 10);
        fault("cost not not not not not 7;", 5, 25);
        fault("cost not not not not not not 7;", 5, 25);
        fault("cost not not not not not (7);", 5, 25);
        fault("cost ((((not 7))));", 5, 13);
        fault("cost not(not(not 7));", 5, 17);
        fault("cost ((((1)))) + (((((2)))));", 5, 22);
        fault("cost not not not not (1 + 1);", 5, 22);
        fine("allow ((((sum))));cost ((((size))));");
        fault("allow (((((sum)))));", 5, 11);
        fault("cost (((((size)))));", 5, 10);
        fault("thing a;cost (((((a)))));", 5, 18);
    }

    private static void truth() {
        says("Of not, and, or, < and = comes 1 or 0; what is not 0 is so; ints wrap.");
        costs("not 5", 0);
        costs("not 0", 1);
        costs("not (0 - 1)", 0);
        costs("5 and 7", 1);
        costs("2 and 1", 1);
        costs("0 and 7", 0);
        costs("7 and 0", 0);
        costs("4 or 0", 1);
        costs("0 or 4", 1);
        costs("4 or 4", 1);
        costs("0 or 0", 0);
        costs("0 - 1 or 0", 1);
        costs("(3 < 4) * 9", 9);
        costs("(4 < 3) + 9", 9);
        costs("(4 = 4) * 9", 9);
        costs("9999 * 9999 * 21", 2099580021);
        costs("9999 * 9999 * 22", 0);
        costs("9999 * 9999 * 22 < 0", 1);
        costs("9999 * 9999 * 43", 4172747);
        costs("0 - 9999 * 9999 * 22", 2095407274);
        costs("9999 * 9999 * 21 + 9999 * 9999 * 21 < 0", 1);
        costs("0 - 9999 * 9999 * 21 < 9999 * 9999 * 21", 1);
        costs("9999 * 9999 * 21 < 0 - 9999 * 9999 * 21", 0);
        costs("0 - 9999 * 9999 * 21 - 9999 * 9999 * 21", 95807254);
        costs("8192 * 8192 * 64 = 0", 1);
        costs("8192 * 8192 * 64 and 1", 0);
        start("thing a;allow 8192 * 8192 * 64;");
        due("wrapped to 0, none may be", x.count(4), 0);
        start("thing a;allow 9999 * 9999 * 22;");
        due("below 0 is not 0", x.count(4), 4);
    }

    private static void places() {
        says("FAULTS, kind + 16 * the place (from 0) of a token, the end being one at the text's length:"
                + " of the first token from the left that is wrong the least:");
        x = new BellPlate();
        fault("?", 1, 0);
        fault(" ?", 1, 1);
        fault("\n\n?", 1, 2);
        fault("thing", 1, 5);
        fault("thing  \n", 1, 8);
        fault("thing a ", 1, 8);
        fault("thing 1;most 0;", 1, 6);
        fault("most 0;thing 1;", 4, 5);
        fault("most 0 ?", 4, 5);
        fault("thing a;cost b;cost ?;", 2, 13);
        fault("cost not not not not not b;", 2, 25);
        fault("cost not not not not not );", 1, 25);
        fault("cost not not not not not sum;", 1, 25);
        fault("cost ((((( ;", 1, 11);
        fault("cost (((((", 1, 10);
        fault("most 1;bar most;", 1, 11);
        fault("most 1;cost most;", 1, 12);
        fault(SIX + "cost thing;", 1, 53);
        fault("allow 1;allow 1;allow 1;allow 1 allow 1;", 1, 32);
        fault(SIX + "most 5", 1, 54);
        fault(SIX + "most 5; cost", 1, 60);
        fault(SIX + "most 5; ", 6, 56);
        x = new BellPlate();
        feed(" ".repeat(995) + "thing a;");
        due("the end of a full TAPE", x.tower(), 1 + 16 * 1000);
        feed(" ".repeat(999) + "?");
        due("the last place", x.tower(), 1 + 16 * 999);
    }

    private static void kinds() {
        says("1 it is none, or can't stand there;");
        x = new BellPlate();
        fault("thing a!", 1, 7);
        fault("thing a)", 1, 7);
        says("2 a NAME in E that is of no THING told;");
        fault("thing a;allow aa;", 2, 14);
        fault("thing ab;cost a;", 2, 14);
        fault("cost 1 + (2 * x);", 2, 14);
        fault("most x;", 1, 5);
        fine("thing a;");
        fault("cost a;", 2, 5);
        says("3 a NAME told already (behind thing), the word most, bar, cost a second time;");
        fault("thing a;cost a + a;thing a;", 3, 25);
        fault(SIX.substring(0, 40) + "thing e;", 3, 46);
        fault("most 1;most 0;", 3, 7);
        fault("most 1;most;", 3, 7);
        fault("bar 1;bar 99;", 3, 6);
        fault("cost 1;cost ?;", 3, 7);
        says("4 a NUMBER that is not as told;");
        fault("most 10;", 4, 5);
        fault("most 0;", 4, 5);
        fault("bar 61;", 4, 4);
        fault("bar 0;", 4, 4);
        says("5 one too many: the word thing of a seventh, allow of a fifth; not, or a PART, within 5 others;");
        fault(SIX + "thing a;", 5, 48);
        fault(SIX + " thing", 5, 49);
        fault("allow 1;allow 1;allow 1;allow 1; allow ?", 5, 33);
        fault("cost ( ( ( ( ( 1", 5, 15);
        fault("cost ( ( ( ( ( not", 5, 15);
        says("6 at the end: the power is greater.");
        fault(SIX + "most 5;", 6, 55);
        fault("most 9;" + SIX + "bar 3;\n", 6, 62);
        fault(SIX.substring(0, 40) + "most 6;", 6, 47);
        fine(SIX.substring(0, 40) + "most 5;");
    }

    private static void newTower() {
        says("Without a FAULT it is the TOWER from then on; all else that was told is gone, MARKS too.");
        start(TWO + "allow a;cost 7;");
        rang(3);
        due("hint", x.hint(1, 1), 0);
        for (int m = 0; m < 4; m++) due("mark", bit(x.mark(m, false)), 1);
        due("lay", x.lay(1), 1);
        fine("");
        long[] got = new long[12];
        for (int i = 0; i < 12; i++) got[i] = x.count(i);
        dueAll("count", got, 0, 3, 10, 1, 1, 1, 0, 0, 0, 0, 0, 0);
        due("cost(0)", x.cost(0), 1);
        for (int m = 0; m < 4; m++) due("mark " + m, bit(x.mark(m, true)), 0);
        fine(TWO);
        dueAll("as if new", row(x.left(0), x.left(1), x.left(2), x.sure(3), x.cost(3), x.feather(8), x.lay(1)), 9, 5, 0, 2, 1, -1, 1);
        dueAll("the first again", row(x.trial(1, true), x.hint(1, 1)), 0, 0);
        due("a greater one", read(things(4)), 0);
        dueAll("count", row(x.count(3), x.left(0), x.may(255), x.may(256)), 256, 256, 1, -1);
        due("the greatest one", read(things(6) + "most 4;bar 4;"), 0);
        dueAll("weighed", row(x.heavy(15624, false, 1), x.heavy(15624, true, 0), x.left(0), x.guess(5, 2), x.with(0), x.bells()), 0, 1, 15625, 4, 15625, 0);
        due("a small one", read(TWO + "allow a = 2;"), 0);
        dueAll("nothing of the greatest", row(x.heavy(0, true, 0), x.list(8), x.list(7), x.guess(0, 1), x.guess(0, 2), x.left(0), x.vetoes(7)), -1, 14, 12, 2, 2, 3, 2);
        due("a smaller one", read("thing a;most 1;bar 1;"), 0);
        dueAll("count", row(x.count(3), x.left(0), x.left(1), x.may(1), x.may(2), x.cost(1), x.cost(2), x.list(1)), 2, 2, 2, 1, -1, 1, -1, 2);
    }
}
