/** Terms I: what a town's text may say. */
final class TextSentences {
    private static final int NONE = TileHeel.NONE;
    private static final String OWNER = TextChecks.OWNER;
    private static final String TWO = TextChecks.TWO;
    private static final String THREE = TextChecks.THREE;
    private static final String PERSON = TextChecks.PERSON;

    private final Ledger ledger;
    private final TextChecks texts;

    private TextSentences(Ledger ledger) {
        this.ledger = ledger;
        texts = new TextChecks(ledger);
    }

    static void hold(Ledger ledger) {
        TextSentences all = new TextSentences(ledger);
        ledger.section("Terms");
        all.lotsAndGaps();
        all.persons();
        all.lawsAndLastOnes();
        all.names();
        all.tests();
        all.sums();
        all.arithmetic();
        all.blanks();
    }

    private static long has(String text, int what) {
        return Check.told(text).has(what);
    }

    // ---- STATEMENTS

    private void lotsAndGaps() {
        ledger.sentence("I. A TOWN is a text: { STATEMENT ; } (80 at most):");
        texts.right("", 0);
        texts.right("rain 5;", 1);
        texts.right("rain 5;".repeat(79), 79);
        texts.right("rain 5;".repeat(80), 80);
        texts.wrong(5, "rain 5;".repeat(81), 560);
        texts.wrongAtMark(1, "rain 5!");
        texts.wrongAtMark(1, "!;");
        texts.wrongAtMark(1, "rain 5;!;");

        ledger.sentence("owner NAME (5 OWNERS);");
        ledger.due("one", has(OWNER, 0), 1);
        ledger.due("five", has(TextChecks.FIVE_OWNERS, 0), 5);
        texts.wrongAtMark(5, TextChecks.FIVE_OWNERS + "!owner u;");

        ledger.sentence("lot NAME of NAME height N tiles N (an OWNER; 0 .. 20, 0 .. 30; 10 LOTS);");
        texts.range("owner o;lot a of o height ", " tiles 2;", 0, 20, x -> x.lot(0, 1));
        texts.range("owner o;lot a of o height 1 tiles ", ";", 0, 30, x -> x.lot(0, 2));
        texts.wrongAtMark(3, TWO + "lot c of !a height 1 tiles 1;");
        texts.wrongAtMark(3, TWO + "lot c of !x height 1 tiles 1;");
        texts.wrongAtMark(3, TWO + PERSON + "lot c of !p height 1 tiles 1;");
        ledger.due("of the second of two", Check.told("owner o;owner q;lot a of q height 1 tiles 1;").lot(0, 0), 1);
        ledger.due("ten", has(TextChecks.lots(10), 1), 10);
        texts.wrongAtMark(5, TextChecks.lots(10) + "!lot lk of o height 0 tiles 30;");

        ledger.sentence("inn NAME beds N (a LOT, not told already; 1 .. 9);");
        texts.range(TWO + "inn b beds ", ";", 1, 9, x -> x.lot(1, 3));
        texts.right(TWO + "inn a beds 1;inn b beds 1;", 5);
        texts.wrongAtMark(3, TWO + "inn a beds 1;inn !a beds 2;");
        texts.wrongAtMark(3, TWO + "inn !o beds 1;");
        texts.wrongAtMark(3, TWO + "inn !x beds 1;");
        texts.wrongAtMark(3, TWO + PERSON + "inn !p beds 1;");

        ledger.sentence("stork NAME (a LOT, not told already);");
        ledger.due("a stork", Check.told(TWO + "stork b;").lot(1, 4), 1);
        ledger.due("none beside it", Check.told(TWO + "stork b;").lot(0, 4), 0);
        texts.right(TWO + "stork a;stork b;", 5);
        texts.right(TWO + "inn a beds 1;stork a;", 5);
        texts.wrongAtMark(3, TWO + "stork a;stork !a;");
        texts.wrongAtMark(3, TWO + "stork !o;");
        texts.wrongAtMark(3, TWO + "stork !x;");
        texts.wrongAtMark(3, TWO + PERSON + "stork !p;");

        ledger.sentence("gap NAME NAME wide N (two LOTS, not the same two again, either way; 0 .. 9; 20 GAPS);");
        texts.range(TWO + "gap a b wide ", ";", 0, 9, x -> x.gap(0, 1));
        texts.right(THREE + "gap a b wide 1;gap a c wide 1;gap b c wide 1;", 7);
        texts.wrongAtMark(3, THREE + "gap a b wide 1;gap a !b wide 1;");
        texts.wrongAtMark(3, THREE + "gap a b wide 1;gap b !a wide 1;");
        texts.wrongAtMark(3, THREE + "gap a !a wide 1;");
        texts.wrongAtMark(3, TWO + "gap !o a wide 1;");
        texts.wrongAtMark(3, TWO + "gap a !o wide 1;");
        texts.wrongAtMark(3, TWO + PERSON + "gap !p a wide 1;");
        texts.wrongAtMark(3, TWO + PERSON + "gap a !p wide 1;");
        ledger.due("twenty", has(TextChecks.gaps(20), 2), 20);
        texts.wrongAtMark(5, TextChecks.gaps(20) + "!gap li lj wide 1;");
    }

    private void persons() {
        ledger.sentence("person NAME weight N leap N climb N heel N at NAME to NAME (1 .. 99, 0 .. 9, 0 .. 20, 0 .. 9; "
            + "two unlike LOTS; 6 PERSONS);");
        texts.range(TWO + "person p weight ", " leap 1 climb 1 heel 1 at a to b;", 1, 99, x -> x.person(0, 0));
        texts.range(TWO + "person p weight 1 leap ", " climb 1 heel 1 at a to b;", 0, 9, x -> x.person(0, 1));
        texts.range(TWO + "person p weight 1 leap 1 climb ", " heel 1 at a to b;", 0, 20, x -> x.person(0, 2));
        texts.range(TWO + "person p weight 1 leap 1 climb 1 heel ", " at a to b;", 0, 9, x -> x.person(0, 3));
        ledger.due("from a", Check.told(TWO + PERSON).person(0, 4), 0);
        ledger.due("to b", Check.told(TWO + PERSON).person(0, 5), 1);
        String back = TWO + PERSON.replace("at a to b", "at b to a");
        ledger.due("from b", Check.told(back).person(0, 4), 1);
        ledger.due("to a", Check.told(back).person(0, 5), 0);
        texts.wrongAtMark(3, TWO + PERSON.replace("at a to b", "at a to !a"));
        texts.wrongAtMark(3, TWO + PERSON.replace("at a to b", "at b to !b"));
        texts.wrongAtMark(3, TWO + PERSON.replace("at a to b", "at !o to a"));
        texts.wrongAtMark(3, TWO + PERSON.replace("at a to b", "at a to !o"));
        texts.wrongAtMark(3, TWO + PERSON.replace("at a to b", "at !x to a"));
        texts.wrongAtMark(3, TWO + PERSON.replace("at a to b", "at a to !x"));
        ledger.due("six", has(TextChecks.persons(6), 3), 6);
        texts.wrongAtMark(5, TextChecks.persons(6) + "!" + PERSON);
    }

    private void lawsAndLastOnes() {
        ledger.sentence("toll NAME SUM when TEST, bar NAME when TEST (an OWNER; 8 LAWS of both together);");
        String bar = "bar o when all;";
        String toll = "toll o 1 when all;";
        ledger.due("eight tolls", has(OWNER + toll.repeat(8), 4), 8);
        ledger.due("eight bars", has(OWNER + bar.repeat(8), 4), 8);
        ledger.due("four of both", has(OWNER + (bar + toll).repeat(4), 4), 8);
        texts.wrongAtMark(5, OWNER + toll.repeat(8) + "!" + toll);
        texts.wrongAtMark(5, OWNER + toll.repeat(8) + "!" + bar);
        texts.wrongAtMark(5, OWNER + bar.repeat(8) + "!" + toll);
        texts.wrongAtMark(5, OWNER + (bar + toll).repeat(4) + "!" + bar);
        texts.wrongAtMark(3, TWO + "toll !a 1 when all;");
        texts.wrongAtMark(3, TWO + "bar !a when all;");
        texts.wrongAtMark(3, TWO + PERSON + "bar !p when all;");
        texts.wrongAtMark(3, TWO + "toll !x 1 when all;");

        ledger.sentence("carry N (1 .. 20), rain N (0 .. 100): the last one of each counts (without: 5, 0).");
        texts.range("carry ", ";", 1, 20, x -> x.has(5));
        texts.range("rain ", ";", 0, 100, x -> x.has(6));
        ledger.due("the last carry", has("carry 3;rain 9;carry 20;carry 7;", 5), 7);
        ledger.due("the last rain", has("rain 3;rain 100;carry 9;rain 0;", 6), 0);
        ledger.due("carry without", has("rain 9;", 5), 5);
        ledger.due("rain without", has("carry 9;", 6), 0);
        TileHeel x = Check.told("carry 9;rain 9;");
        Check.town(x, "carry 8;rain 8;");
        Check.town(x, OWNER);
        ledger.due("carry without, behind towns with", x.has(5), 5);
        ledger.due("rain without, behind towns with", x.has(6), 0);
    }

    // ---- NAMES

    private void names() {
        ledger.sentence("NAMES: 1 to 6 letters, no OWN WORD, unlike ones (of all sorts), told ahead of where they are "
            + "asked.");
        texts.right("owner a;owner z;owner az;", 3);
        texts.right("owner abcdef;owner uvwxyz;", 2);
        texts.wrongAtMark(1, "owner !;");
        texts.wrongAtMark(1, "owner abcdef!g;");
        for (String noLetter : new String[] {"`", "{", "@", "A", "Z", "[", "_", "0", "9"}) {
            texts.wrongAtMark(1, "owner !" + noLetter + ";");
            texts.wrongAtMark(1, "owner a!" + noLetter + ";");
        }
        for (String word : TextChecks.OWN_WORDS) {
            texts.wrongAtMark(1, "owner !" + word + ";");
            texts.right("owner " + word.substring(0, word.length() - 1) + ";", 1);
            texts.right("owner x" + word.substring(1) + ";", 1);
            if (word.length() < 6) {
                texts.right("owner " + word + "x;", 1);
            }
        }
        unlikeNames();
        toldAhead();
    }

    private void unlikeNames() {
        String[] sorts = {"owner !s;", "lot !s of o height 1 tiles 2;", PERSON.replace("person p", "person !s")};
        for (String first : sorts) {
            for (String second : sorts) {
                texts.wrongAtMark(3, TWO + first.replace("!", "") + second);
                texts.right(TWO + first.replace("!s", "s") + second.replace("!s", "ss"), 5);
                texts.right(TWO + first.replace("!s", "stars") + second.replace("!s", "start"), 5);
            }
        }
    }

    private void toldAhead() {
        String lot = "lot c of o height 1 tiles 1;";
        texts.right(OWNER + lot + "stork c;", 3);
        texts.wrongAtMark(3, "lot c of !o height 1 tiles 1;" + OWNER);
        texts.wrongAtMark(3, OWNER + "stork !c;" + lot);
        texts.wrongAtMark(3, OWNER + "inn !c beds 1;" + lot);
        texts.wrongAtMark(3, TWO + "gap a !c wide 1;" + lot);
        texts.wrongAtMark(3, TWO + "gap !c a wide 1;" + lot);
        texts.wrongAtMark(3, TWO + PERSON.replace("at a", "at !c") + lot);
        texts.wrongAtMark(3, TWO + PERSON.replace("to b", "to !c") + lot);
        texts.wrongAtMark(3, "toll !o 1 when all;" + OWNER);
        texts.wrongAtMark(3, "bar !o when all;" + OWNER);
        // a name is no lot and no owner in the statement that gives it
        texts.wrongAtMark(3, OWNER + "lot c of !c height 1 tiles 1;");
        texts.wrongAtMark(3, TWO + PERSON.replace("at a", "at !p"));
    }

    // ---- TESTS and SUMS

    /** TOLL of a lot (height 7, tiles 4, in NIGHT 3) for a person (weight 30, heel 2). */
    private static long toll(String laws) {
        TileHeel x = Check.told("owner o;lot a of o height 7 tiles 4;lot b of o height 0 tiles 9;"
            + "person p weight 30 leap 0 climb 0 heel 2 at a to b;" + laws);
        x.night();
        x.night();
        x.night();
        return x.toll(0, 0);
    }

    private void sum(String sum, int due) {
        ledger.due(sum, toll("toll o " + sum + " when all;"), due);
    }

    private void test(String test, boolean due) {
        ledger.due(test, toll("toll o 1 when " + test + ";"), due ? 1 : 0);
        ledger.due("bar when " + test, toll("bar o when " + test + ";"), due ? NONE : 0);
    }

    private void wrongTest(String marked) {
        texts.wrongAtMark(1, OWNER + "bar o when " + marked + ";");
    }

    private void wrongSum(String marked) {
        texts.wrongAtMark(1, OWNER + "toll o " + marked + "when all;");
    }

    private void tests() {
        ledger.sentence("TEST: BOTH { or BOTH }.");
        test("1=1 or 1=2", true);
        test("1=2 or 1=1", true);
        test("1=2 or 1=2", false);
        test("1=2 or 1=2 or 1=2 or 1=1", true);
        wrongTest("!or all");
        wrongTest("all or!");
        wrongTest("all or !or all");

        ledger.sentence("BOTH: FACT { and FACT }.");
        test("1=1 and 1=2", false);
        test("1=1 and 2=2 and 3=3", true);
        test("1=1 and 2=2 and 3=4", false);
        test("1=1 or 1=1 and 1=2", true);
        test("1=2 and 1=2 or 1=1", true);
        test("1<2 and 2>1 and all and 1=1", true);
        test("all and 1<2", true);
        test("all and 2>1", true);
        wrongTest("!and all");
        wrongTest("all and!");
        wrongTest("all and !or all");

        ledger.sentence("FACT: not FACT; [ TEST ] ; all; SUM SIGN SUM, SIGN < or > or = .");
        facts();
        for (String marked : new String[] {
            "1!", "1=!", "!=1", "1=1!=1", "1<!=1", "not!", "[!]", "[all!", "[1!]=1", "all!=1", "1=!all", "1=!not all",
            "all!]", "(!all)", "1=![all]", "!leap=1", "all !all", "1=1 !1"}) {
            wrongTest(marked);
        }
    }

    private void facts() {
        test("not 1=1", false);
        test("not 1=2", true);
        test("not 1<2", false);
        test("not 2>1", false);
        test("not 2<1", true);
        test("not 1>2", true);
        test("not not 1=1", true);
        test("not 1=2 and 1=2", false);
        test("not 1=1 or 1=1", true);
        test("not [1=1 or 1=1]", false);
        test("[1=1 or 1=1] and 1=2", false);
        test("[[1=1]]", true);
        test("1=2 or all and [1=2 or all and [1=2 or all and [1=2 or all and [1=2 or all and [1=2 or all]]]]]", true);
        test("1=2 or all and [1=2 or all and [1=2 or all and [1=2 or all and [1=2 or all and [1=2 or 1=3]]]]]", false);
        test("1=2 or all and not[1=2 or not[all and 1+2*(3+4*(5-6))>9999]]", false);
        test("all", true);
        test("not all", false);
        test("[all]", true);
        test("1<2", true);
        test("2<2", false);
        test("3<2", false);
        test("1>2", false);
        test("2>2", false);
        test("3>2", true);
        test("1=2", false);
        test("2=2", true);
        test("3=2", false);
        test("0-1<0", true);
    }

    private void sums() {
        ledger.sentence("SUM: PRODUCT { + or - PRODUCT }.");
        sum("2+3", 5);
        sum("9-3+1", 7);
        sum("2+3*4", 14);
        sum("2*3+4*5", 26);
        sumsAsLongAsATape();
        for (String marked : new String[] {"!+1", "!-1", "1+!", "1-!-1", "1 !1"}) {
            wrongSum(marked);
        }

        ledger.sentence("PRODUCT: PART { * or / PART }.");
        sum("2*3*4", 24);
        sum("24/2/3", 4);
        sum("24/(6/2)", 8);
        for (String marked : new String[] {"!*1", "!/1", "1*!", "1/!+1", "1*!/2"}) {
            wrongSum(marked);
        }

        ledger.sentence("PART: N (1 to 4 digits); weight; heel; height; tiles; night; ( SUM ) ; min ( SUM , SUM ) ; "
            + "max ( SUM , SUM ) .");
        parts();
        for (String marked : new String[] {
            "9999!9", "0000!0", "!leap", "!climb", "!carry", "!o", "(!)", "(1 !", "(1!,2)", "1!)", "min !1", "min !",
            "min(1!)", "max(1,!)", "max(1,2!,3)", "min(!,2)", "max(1,2 !", "tiles !(1)"}) {
            wrongSum(marked);
        }

        ledger.sentence("(Of a PERSON on a LOT: its height, its tiles now; the NIGHT.)");
        ofThePerson();
    }

    /** So long that there is room for one such town alone. */
    private void sumsAsLongAsATape() {
        String before = "owner o;lot a of o height 0 tiles 1;lot b of o height 0 tiles 1;" + Lives.person("p", 1, 0, 0, 0, "a", "b")
            + "toll o 1";
        String after = " when all;";
        TileHeel x = new TileHeel();
        for (int more = 700; more <= 725; more += 5) {
            String text = before + "+1".repeat(more) + after;
            ledger.due("a town of " + text.length() + " bytes", Check.town(x, text), 5);
            ledger.due("the sum of " + (more + 1) + " ones", x.toll(0, 0), more + 1);
        }
        x = new TileHeel();
        String full = before + " ".repeat(1600 - before.length() - after.length()) + after;
        ledger.due("1600 bytes", full.length(), 1600);
        ledger.due("a town of 1600 bytes", Check.town(x, full), 5);
        ledger.due("one", x.toll(0, 0), 1);
        ledger.due("a test of ors", Check.town(x, before + " when 1=2" + " or 1=2".repeat(190) + " or all;"), 5);
        ledger.due("the last one holds", x.toll(0, 0), 1);
    }

    private void parts() {
        sum("0", 0);
        sum("9", 9);
        sum("0009", 9);
        sum("9999-9000", 999);
        sum("weight", 30);
        sum("heel", 2);
        sum("height", 7);
        sum("tiles", 4);
        sum("night", 3);
        sum("(2+3)*4", 20);
        sum("((5))", 5);
        sum("min(3,4)", 3);
        sum("min(4,3)", 3);
        sum("max(3,4)", 4);
        sum("max(4,3)", 4);
        sum("10+min(0-4,3)", 6);
        sum("10+max(0-4,0-3)", 7);
        sum("min(2*3,10-5)+max(1+1,9/3)*10", 35);
        sum("1+1*max(0,1+1*max(0,1+1*max(0,1+1*max(0,1+1*max(0,1+1*max(0,1))))))", 7);
        sum("min(min(min(min(min(min(1,2),3),4),5),6),7)+1*((((((1))))))", 2);
    }

    private void ofThePerson() {
        TileHeel x = Check.told("owner o;lot a of o height 3 tiles 5;lot b of o height 8 tiles 9;gap a b wide 0;"
            + "person p weight 70 leap 0 climb 20 heel 4 at a to b;person q weight 6 leap 0 climb 0 heel 1 at b to a;"
            + "toll o weight*100+heel*10+height when night=0;toll o tiles*100+night when all;");
        ledger.due("q on a", x.toll(1, 0), 613);
        ledger.due("q on b", x.toll(1, 1), 618);
        x.patch(1, 0);
        x.night();
        // p (70 is above 5 times 8) breaks one of b, q none of a
        ledger.due("tiles of a, the night", x.toll(0, 0), 601);
        ledger.due("tiles of b now", x.toll(0, 1), 701);
        x.fire(1, 0);
        ledger.due("no tiles", x.toll(0, 1), 1);
    }

    private void arithmetic() {
        ledger.sentence("All from the left on;");
        sum("10-3-2", 5);
        sum("10-(3-2)", 9);
        sum("100/10*5", 50);
        sum("100/(10*5)", 2);
        sum("7*3/2", 10);
        sum("7/2*3", 9);
        ledger.sentence("/ gives the greatest whole number not above, by 0 it gives 0;");
        sum("6/3", 2);
        sum("7/3", 2);
        sum("8/3", 2);
        sum("100+(0-6)/3", 98);
        sum("100+(0-7)/3", 97);
        sum("100+(0-8)/3", 97);
        sum("100+7/(0-3)", 97);
        sum("100+6/(0-3)", 98);
        sum("100+(0-7)/(0-3)", 102);
        sum("100+0/5", 100);
        sum("5/1", 5);
        sum("100+5/0", 100);
        sum("100+(0-5)/0", 100);
        sum("100+0/0", 100);
        ledger.sentence("each sum, difference, product above 10 to the 6 is that, below -10 to the 6 likewise.");
        // 9999 * 100 is 999900: of 10 to the 6, 100 are left
        sum("1000*1000-1-9999*100", 99);
        sum("1000*1000-9999*100", 100);
        sum("1000*1000+1-9999*100", 100);
        sum("1000*1000-(0-1)-9999*100", 100);
        sum("999*1001-9999*100", 99);
        sum("1001*1000-9999*100", 100);
        sum("(0-1001)*(0-1000)-9999*100", 100);
        sum("9999*9999*9999*9999-9999*100", 100);
        sum("0-1000*1000+1+9999*100+101", 2);
        sum("0-1000*1000+9999*100+101", 1);
        sum("0-1000*1000-1+9999*100+101", 1);
        sum("(0-1000)*1000+(0-1)+9999*100+101", 1);
        sum("(0-999)*1001+9999*100+101", 2);
        sum("(0-1001)*1000+9999*100+101", 1);
        sum("1001*(0-1000)+9999*100+101", 1);
        test("9999*9999=1000*1000", true);
        test("1000*1000=1000*1000-1", false);
        test("0-9999*9999=0-1000*1000", true);
    }

    // ---- blanks

    private void blanks() {
        ledger.sentence("Blanks (10, 32) are where one likes (words and numbers side by side need one).");
        texts.right("owner a;", 1);
        texts.right("  \n owner\n a \n;\n ", 1);
        texts.right("owner a;\n\n\n", 1);
        texts.right(" \n ", 0);
        texts.right("owner o;toll o(1)when[all]and not[all];", 2);
        texts.right("owner o;toll o min(1,2)when min(1,2)=(1)or 2>1;", 2);
        texts.right(" owner o ; toll o ( 1 ) + min ( 2 , 3 ) * 4 when not [ 1 < 2 ] and all or 1\n=\n1 ; ", 2);
        for (int c : new int[] {0, 9, 11, 13, 31, 33, 127, 128, 160, 255}) {
            texts.wrong(1, "owner" + (char) c + "a;", 5);
            texts.wrong(1, (char) c + "owner a;", 0);
            texts.wrong(1, "owner a;" + (char) c, 8);
        }
        for (String marked : new String[] {
            "!ownera;", "carry!5;", "rain!5;", OWNER + "!lota of o height 1 tiles 1;", OWNER + "lot a !ofo height 1;",
            OWNER + "lot a of o height!1 tiles 1;", OWNER + "lot a of o height 1!tiles 1;", TWO + "inn a beds!1;",
            TWO + "gap a b wide!1;", OWNER + "toll o!1 when all;", OWNER + "toll o 1!when all;",
            OWNER + "toll o weight!1 when all;", OWNER + "bar o when 1<2!or all;", OWNER + "bar o when 1<2!and all;",
            OWNER + "bar o when 1<tiles!2;", OWNER + "bar o when !notall;"}) {
            texts.wrongAtMark(1, marked);
        }
        texts.wrongAtMark(3, TWO + "gap !ab wide 1;");
    }
}
