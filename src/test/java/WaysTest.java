/** Promises 12 to 15: toll, step, way, leave. */
public final class WaysTest {
    private static final int NONE = TileHeel.NONE;
    private static Check check;

    public static void main(String[] args) {
        check = new Check("WaysTest");
        sums();
        tests();
        tolls();
        steps();
        ways();
        leaves();
        check.close();
    }

    /** TOLL of a lot (height 7, tiles 4) for a person (weight 30, heel 2) by a town's laws. */
    private static int tollBy(String laws, int nights) {
        TileHeel x = Check.told("owner o;lot a of o height 7 tiles 4;lot b of o height 0 tiles 9;"
            + "person p weight 30 leap 0 climb 0 heel 2 at a to b;" + laws);
        for (int k = 0; k < nights; k++) {
            x.night();
        }
        return x.toll(0, 0);
    }

    private static void sum(String sum, int due) {
        check.due("toll " + sum, tollBy("toll o " + sum + " when all;", 0), due);
    }

    private static void sums() {
        sum("5", 5);
        sum("weight", 30);
        sum("heel", 2);
        sum("height", 7);
        sum("tiles", 4);
        sum("night", 0);
        check.due("night 3", tollBy("toll o night when all;", 3), 3);
        sum("10-3-2", 5);
        sum("10-(3-2)", 9);
        sum("2+3*4", 14);
        sum("(2+3)*4", 20);
        sum("100/10/3", 3);
        sum("100/(10/3)", 33);
        sum("7*3/2", 10);
        sum("7/2*3", 9);
        sum("100+(0-7)/2", 96);
        sum("100+7/(0-2)", 96);
        sum("100+(0-6)/2", 97);
        sum("100+(0-7)/(0-2)", 103);
        sum("5/0", 0);
        sum("3+(0-5)/0", 3);
        sum("min(3,4)+max(3,4)*10", 43);
        sum("min(4,3)+max(4,3)*10", 43);
        sum("min(0-4,3)+10", 6);
        sum("0-1", 0);
        sum("999", 999);
        sum("1000", 999);
        sum("9999*9999", 999);
        // 10 to the 6 at most: so what is above it is gone when something is taken away
        sum("9999*9999-9999*100", 100);
        sum("9999*9999-(9999*100+100)", 0);
        sum("9999*9999-9999*100-90", 10);
        sum("1000*1000+5-9999*100-90", 10);
        sum("(0-9999)*9999+9999*100+101", 1);
        sum("0-9999*100-9999*100+9999*100+101", 1);
    }

    private static void test(String test, boolean due) {
        check.due("when " + test, tollBy("toll o 1 when " + test + ";", 0), due ? 1 : 0);
        check.due("bar when " + test, tollBy("bar o when " + test + ";", 0), due ? NONE : 0);
        check.due("when not [" + test + "]", tollBy("toll o 1 when not [" + test + "];", 0), due ? 0 : 1);
    }

    private static void tests() {
        test("all", true);
        test("not all", false);
        test("not not all", true);
        test("1<2", true);
        test("2<2", false);
        test("2>2", false);
        test("3>2", true);
        test("2=2", true);
        test("2=3", false);
        test("0-3<0-2", true);
        test("1=2 or 2=2", true);
        test("1=2 and 2=2", false);
        test("2=2 or 1=2 and 1=2", true);
        test("[2=2 or 1=2] and 1=2", false);
        test("not 1=2 or 1=1", true);
        test("not 1=1 or 1=1", true);
        test("not [1=1 or 1=1]", false);
        test("not 1=2 and 1=2", false);
        test("not 1=1 and not 1=1 or all", true);
        test("weight=30 and heel=2 and height=7 and tiles=4 and night=0", true);
        test("(1+2)*3=9", true);
    }

    private static void tolls() {
        check.due("no law", tollBy("", 0), 0);
        check.due("the first that holds", tollBy("toll o 1 when 1=2;toll o 2 when all;toll o 3 when all;", 0), 2);
        check.due("none holds", tollBy("toll o 1 when 1=2;bar o when 1=2;", 0), 0);
        check.due("a bar behind a toll", tollBy("toll o 1 when all;bar o when all;", 0), NONE);
        check.due("another owner's", tollBy("owner q;toll q 1 when all;bar q when all;", 0), 0);
        TileHeel x = Check.told("owner o;owner q;lot a of o height 7 tiles 4;lot b of q height 0 tiles 0;"
            + "person p weight 30 leap 0 climb 0 heel 2 at a to b;toll o 9 when all;bar q when all;");
        check.due("lot a", x.toll(0, 0), 9);
        check.due("lot b, a hole", x.toll(0, 1), NONE);
        check.due("no lot 2", x.toll(0, 2), -2);
        check.due("no lot -1", x.toll(0, -1), -2);
        check.due("no person 1", x.toll(1, 0), -2);
        check.due("no person -1", x.toll(-1, 0), -2);
        x.snow(1);
        check.due("in snow", x.toll(0, 0), 0);
        check.due("nobody is barred in snow", x.toll(0, 1), 0);
        check.due("no lot in snow", x.toll(0, 2), -2);
        x.snow(0);
        check.due("behind snow", x.toll(0, 1), NONE);
    }

    private static void steps() {
        TileHeel x = Check.told("owner o;owner q;lot a of o height 5 tiles 4;lot b of o height 8 tiles 1;"
            + "lot c of o height 9 tiles 1;lot d of o height 0 tiles 0;lot e of q height 5 tiles 1;lot f of o height 0 tiles 1;"
            + "gap a b wide 4;gap c a wide 4;gap a d wide 0;gap a e wide 0;gap f a wide 5;"
            + "person p weight 30 leap 4 climb 3 heel 2 at a to b;bar q when all;");
        check.due("leap and climb just do", x.step(0, 0, 1), 1);
        check.due("down again", x.step(0, 1, 0), 1);
        check.due("too high", x.step(0, 0, 2), 0);
        check.due("down from there", x.step(0, 2, 0), 1);
        check.due("a hole", x.step(0, 0, 3), 0);
        check.due("barred", x.step(0, 0, 4), 0);
        check.due("from there it is free", x.step(0, 4, 0), 1);
        check.due("too wide", x.step(0, 0, 5), 0);
        check.due("no gap", x.step(0, 1, 2), 0);
        check.due("to itself", x.step(0, 0, 0), 0);
        check.due("no lot 6", x.step(0, 0, 6), NONE);
        check.due("no lot -1", x.step(0, -1, 0), NONE);
        check.due("no person 1", x.step(1, 0, 1), NONE);
        check.due("no person -1", x.step(-1, 0, 1), NONE);
        x.snow(1);
        check.due("less wide in snow", x.step(0, 0, 5), 1);
        check.due("not barred in snow", x.step(0, 0, 4), 1);
        check.due("as high in snow", x.step(0, 0, 2), 0);
        check.due("a hole in snow", x.step(0, 0, 3), 0);
    }

    private static void wayIs(String what, TileHeel x, int coins, int... lots) {
        check.due(what + ": coins", x.way(0, NONE), coins);
        check.due(what + ": steps", x.way(0, 20), lots.length);
        for (int k = 0; k < lots.length; k++) {
            check.due(what + ": lot " + k, x.way(0, k), lots[k]);
        }
        check.due(what + ": behind it", x.way(0, lots.length), NONE);
        check.due(what + ": ahead of it", x.way(0, -2), NONE);
        check.due(what + ": 21", x.way(0, 21), NONE);
        check.due(what + ": reached", x.reach(0) >> lots[lots.length - 1] & 1, 1);
    }

    /** Lots of four owners that take as many coins as their tiles are; a is 0, b 1 .. */
    private static TileHeel grid(String gaps, int... tolls) {
        StringBuilder text = new StringBuilder("owner o;");
        for (int k = 0; k < tolls.length; k++) {
            text.append("lot ").append((char) ('a' + k)).append(" of o height 0 tiles ").append(tolls[k]).append(';');
        }
        for (int k = 0; k + 1 < gaps.length(); k += 3) {
            text.append("gap ").append(gaps.charAt(k)).append(' ').append(gaps.charAt(k + 1)).append(" wide 0;");
        }
        char last = (char) ('a' + tolls.length - 1);
        text.append("person p weight 1 leap 0 climb 0 heel 0 at a to ").append(last).append(";toll o tiles-1 when all;");
        return Check.told(text.toString());
    }

    private static void ways() {
        wayIs("straight", grid("ab ", 9, 2), 1, 1);
        wayIs("no coins for a detour", grid("ae ab bc ce", 9, 1, 1, 30, 3), 2, 4);
        wayIs("a dear one is gone around", grid("ab be ac cd de", 1, 9, 2, 3, 1), 3, 2, 3, 4);
        wayIs("of like coins the fewest steps", grid("ab be ac cd de", 1, 4, 2, 3, 1), 3, 1, 4);
        wayIs("of like steps the first lots", grid("ac ce ab be ad de", 1, 2, 2, 2, 1), 1, 1, 4);
        wayIs("the first lot counts ahead of the next", grid("ac cb bf ab bd df ad", 1, 1, 1, 1, 1, 1), 0, 1, 5);
        wayIs("first by the second lot", grid("ab bd be bc cf df ef ", 1, 1, 1, 1, 1, 1), 0, 1, 2, 5);
        wayIs("nine steps", grid("ab bc cd de ef fg gh hi ij", 1, 2, 2, 2, 2, 2, 2, 2, 2, 2), 9, 1, 2, 3, 4, 5, 6, 7, 8, 9);
        TileHeel x = grid("ab ", 1, 1, 1);
        check.due("no way", x.way(0, NONE), NONE);
        check.due("no steps", x.way(0, 20), NONE);
        check.due("no lot", x.way(0, 0), NONE);
        check.due("no person", x.way(1, NONE), NONE);
        check.due("no person -1", x.way(-1, NONE), NONE);
        // the lot where he is takes nothing, and may be a hole
        wayIs("from a hole", grid("ab ", 0, 5), 4, 1);
        check.due("to a hole", grid("ab ", 5, 0).way(0, NONE), NONE);
        // coins count in thousands as well
        TileHeel dear = Check.told("owner o;lot a of o height 0 tiles 1;lot b of o height 0 tiles 1;"
            + "lot c of o height 0 tiles 1;lot d of o height 0 tiles 1;gap a b wide 0;gap b c wide 0;gap c d wide 0;"
            + "person p weight 1 leap 0 climb 0 heel 0 at a to d;toll o 999 when all;");
        wayIs("dear", dear, 2997, 1, 2, 3);
    }

    private static void leaves() {
        // o: a; q: b, e; r: c; s: d. a to e by b (q alone), by c (r, q), by d (s, q)
        String text = "owner o;owner q;owner r;owner s;lot a of o height 0 tiles 1;lot b of q height 0 tiles 1;"
            + "lot c of r height 0 tiles 1;lot d of s height 0 tiles 1;lot e of q height 0 tiles 1;"
            + "gap a b wide 0;gap b e wide 0;gap a c wide 0;gap c e wide 0;gap a d wide 0;gap d e wide 0;"
            + "person p weight 1 leap 0 climb 0 heel 0 at a to e;person x weight 1 leap 0 climb 0 heel 0 at e to a;"
            + "person y weight 3 leap 0 climb 0 heel 0 at a to e;bar q when weight=3 and height=0 and night=0;";
        TileHeel x = Check.told(text);
        check.due("by q alone", x.leave(0, 0), 1);
        check.due("bits of q", x.leave(0, 1), 2);
        check.due("back: o and q", x.leave(1, 0), 2);
        check.due("back: bits", x.leave(1, 1), 3);
        check.due("no way", x.leave(2, 0), NONE);
        check.due("no way: bits", x.leave(2, 1), NONE);
        check.due("what 2", x.leave(0, 2), NONE);
        check.due("what -1", x.leave(0, -1), NONE);
        check.due("no person 3", x.leave(3, 0), NONE);
        check.due("no person -1", x.leave(-1, 0), NONE);
        x.snow(1);
        check.due("in snow others are barred, too", x.leave(1, 1), 3);
        check.due("in snow he has a way", x.leave(2, 1), 2);
        x.fire(1, 0);
        check.due("b is a hole: by q and r", x.leave(0, 1), 6);
        x.fire(2, 0);
        check.due("c, too: by q and s", x.leave(0, 1), 10);
        // by o's and q's lots to r's, or by s's: two owners are fewer than three, though their bits are more
        TileHeel y = Check.told("owner o;owner q;owner r;owner s;lot a of r height 0 tiles 1;lot b of o height 0 tiles 1;"
            + "lot c of q height 0 tiles 1;lot d of s height 0 tiles 1;lot e of r height 0 tiles 1;"
            + "gap a b wide 0;gap b c wide 0;gap c e wide 0;gap a d wide 0;gap d e wide 0;"
            + "person p weight 1 leap 0 climb 0 heel 0 at a to e;");
        check.due("two owners", y.leave(0, 0), 2);
        check.due("r and s", y.leave(0, 1), 12);
        y.fire(3, 0);
        check.due("three owners", y.leave(0, 0), 3);
        check.due("o, q and r", y.leave(0, 1), 7);
    }
}
