/** Promises 16 to 23: go, night, patch, snow, fire, undo, seed, led. */
public final class ActsTest {
    private static final int NONE = TileHeel.NONE;
    private static Check check;

    public static void main(String[] args) {
        check = new Check("ActsTest");
        going();
        nights();
        rains();
        patches();
        snows();
        fires();
        undoing();
        seeds();
        leading();
        check.close();
    }

    /** Four lots in a row; b and d are q's; each of q's takes as many coins as it has tiles. */
    private static final String ROW = "owner o;owner q;lot a of o height 0 tiles 3;lot b of q height 0 tiles 2;"
        + "lot c of o height 0 tiles 4;lot d of q height 0 tiles 5;"
        + "gap a b wide 1;gap b c wide 1;gap c d wide 2;toll q tiles when all;";
    private static final String P = "person p weight 16 leap 2 climb 0 heel 1 at a to d;carry 4;";

    private static void going() {
        TileHeel x = Check.told(ROW + P);
        check.due("go", x.go(0), 7);
        check.due("he is there", x.person(0, 4), 3);
        check.due("he goes back next", x.person(0, 5), 0);
        check.due("o has nothing", x.purse(0), 0);
        check.due("q is paid", x.purse(1), 7);
        // 16 is above 4 times 2 and 4 times 3, not above 4 times 4 or 5
        check.due("a is not come to", x.lot(0, 2), 3);
        check.due("one of b breaks", x.lot(1, 2), 1);
        check.due("none of c", x.lot(2, 2), 4);
        check.due("none of d", x.lot(3, 2), 5);
        check.due("an act", x.has(12), 1);
        check.due("back by the last tile of b", x.go(0), 1);
        check.due("b is a hole", x.has(10), 1);
        check.due("a breaks, too", x.lot(0, 2), 2);
        check.due("q", x.purse(1), 8);
        check.due("no way", x.go(0), NONE);
        check.due("he stays", x.person(0, 4), 0);
        check.due("no act", x.has(12), 2);
        check.due("nobody", x.go(1), NONE);
        check.due("nobody -1", x.go(-1), NONE);
        TileHeel light = Check.told(ROW + "person p weight 8 leap 2 climb 0 heel 1 at a to d;carry 4;");
        light.go(0);
        check.due("as heavy as it carries", light.has(11), 0);
    }

    private static void nights() {
        // p breaks b down to one tile, r to none: then s, who comes behind, has no way
        TileHeel x = Check.told(ROW + P + "person r weight 9 leap 2 climb 0 heel 1 at c to a;"
            + "person s weight 1 leap 2 climb 0 heel 1 at a to d;");
        check.due("night", x.night(), 2);
        check.due("p", x.person(0, 4), 3);
        check.due("r", x.person(1, 4), 0);
        check.due("s stays", x.person(2, 4), 0);
        check.due("s goes on to d", x.person(2, 5), 3);
        check.due("purse: p pays 2 and 5, r pays 1", x.purse(1), 8);
        check.due("a: r breaks none", x.lot(0, 2), 3);
        check.due("b", x.lot(1, 2), 0);
        check.due("night 1", x.has(7), 1);
        check.due("one act", x.has(12), 1);
        check.due("night 2", x.night(), 0);
        TileHeel y = Check.told("owner o;");
        Check.feed(y, Check.image(3, 230, 0, 0, 0, 0, 0));
        check.due("on", y.on(), true);
        check.due("night 998", y.night(), 0);
        check.due("999", y.has(7), 999);
        check.due("no more", y.night(), NONE);
        check.due("still 999", y.has(7), 999);
        check.due("no act", y.has(12), 1);
    }

    private static void rains() {
        String lots = "owner o;owner q;lot a of o height 0 tiles 3;lot b of o height 0 tiles 2;lot c of q height 0 tiles 0;"
            + "lot d of o height 0 tiles 1;";
        TileHeel x = Check.told(lots + "rain 100;");
        x.night();
        check.due("o pays for b and d", x.purse(0), -2);
        check.due("q pays for c", x.purse(1), -1);
        TileHeel dry = Check.told(lots);
        dry.night();
        check.due("no rain", dry.purse(0), 0);
        // from 1: x = 1103527590, 17242618 mod 100 = 18; then 2524885223 mod 2^31 = 377401575 ..
        long seed = 1;
        int purse = 0;
        TileHeel some = Check.told(lots + "rain 40;");
        for (int k = 0; k < 200; k++) {
            seed = (1103515245L * seed + 12345L) % 2147483648L;
            purse -= seed / 64 % 100 < 40 ? 2 : 0;
            some.night();
            check.due("rain by draws " + k, some.purse(0), purse);
        }
        TileHeel edge = Check.told(lots + "rain 18;");
        edge.night();
        check.due("a draw of 18 is not below 18", edge.purse(0), 0);
        TileHeel above = Check.told(lots + "rain 19;");
        above.night();
        check.due("a draw of 18 is below 19", above.purse(0), -2);
        // a night without rain draws, too
        TileHeel later = new TileHeel();
        check.due("dry town", Check.town(later, lots), 6);
        later.night();
        check.due("rainy town", Check.town(later, lots + "rain 40;"), 7);
        later.night();
        long second = (1103515245L * 1103527590L + 12345L) % 2147483648L;
        check.due("the seed stays in a new town", later.purse(0), second / 64 % 100 < 40 ? -2 : 0);
        // he who has gone rains on fewer tiles
        TileHeel gone = Check.told("owner o;lot a of o height 0 tiles 3;lot b of o height 0 tiles 3;gap a b wide 0;"
            + "person p weight 99 leap 0 climb 0 heel 0 at a to b;rain 100;");
        gone.night();
        check.due("it rains when all have gone", gone.purse(0), -1);
    }

    private static void patches() {
        TileHeel x = Check.told("owner o;owner q;lot a of o height 0 tiles 1;lot b of q height 9 tiles 29;"
            + "lot c of o height 0 tiles 5;lot d of o height 0 tiles 0;stork c;");
        check.due("from a to b", x.patch(0, 1), true);
        check.due("a", x.lot(0, 2), 0);
        check.due("b", x.lot(1, 2), 30);
        check.due("none left", x.patch(0, 1), false);
        check.due("a stork", x.patch(2, 0), false);
        check.due("from b to a hole", x.patch(1, 3), true);
        check.due("to a stork", x.patch(1, 2), true);
        check.due("c has 6", x.lot(2, 2), 6);
        check.due("to itself", x.patch(1, 1), false);
        check.due("no lot 4", x.patch(1, 4), false);
        check.due("no lot 4", x.patch(4, 1), false);
        check.due("no lot -1", x.patch(-1, 1), false);
        check.due("no lot -1", x.patch(1, -1), false);
        check.due("d to b", x.patch(3, 1), true);
        check.due("b", x.lot(1, 2), 29);
        check.due("acts", x.has(12), 4);
        TileHeel full = Check.told("owner o;lot a of o height 0 tiles 9;lot b of o height 0 tiles 30;");
        check.due("30 at most", full.patch(0, 1), false);
        check.due("no act", full.has(12), 0);
        check.due("all there", full.has(9), 39);
    }

    private static void snows() {
        TileHeel x = new TileHeel();
        check.due("snow 9", x.snow(9), 0);
        check.due("snow 10", x.snow(10), NONE);
        check.due("snow -1", x.snow(-1), NONE);
        check.due("snow 9 again", x.snow(9), 9);
        check.due("snow 0", x.snow(0), 9);
        check.due("it is 0", x.has(8), 0);
        check.due("three acts", x.has(12), 3);
    }

    private static final String BURN = "owner o;lot a of o height 0 tiles 1;lot b of o height 20 tiles 2;"
        + "lot c of o height 0 tiles 0;lot d of o height 0 tiles 4;lot e of o height 0 tiles 8;lot f of o height 0 tiles 16;"
        + "gap a b wide 1;gap b c wide 0;gap c d wide 0;gap b e wide 1;gap e f wide 2;gap e d wide 0;";

    private static void fires() {
        TileHeel x = Check.told(BURN);
        check.due("0 minutes", x.fire(0, 0), 1);
        check.due("a is a hole", x.lot(0, 2), 0);
        check.due("a hole does not burn", x.fire(0, 0), NONE);
        check.due("hole c", x.fire(2, 3), NONE);
        check.due("no lot 6", x.fire(6, 3), NONE);
        check.due("no lot -1", x.fire(-1, 3), NONE);
        check.due("21 minutes", x.fire(1, 21), NONE);
        check.due("-1 minutes", x.fire(1, -1), NONE);
        check.due("one act", x.has(12), 1);
        check.due("undone", x.undo(), true);
        check.due("1 minute", x.fire(0, 1), 3);
        check.due("undone", x.undo(), true);
        check.due("2 minutes", x.fire(0, 2), 11);
        check.due("undone", x.undo(), true);
        check.due("snow makes no gap narrower for it", x.snow(9), 0);
        check.due("20 minutes, not over wide gaps and holes", x.fire(0, 20), 15);
        check.due("f is left", x.has(9), 16);
        check.due("led to nobody", x.has(11), 0);
    }

    private static void undoing() {
        TileHeel x = Check.told(ROW + P + "rain 100;");
        check.due("nothing yet", x.undo(), false);
        x.image();
        int[] before = new int[64];
        for (int k = 0; k < 64; k++) {
            before[k] = x.octet(k);
        }
        x.go(0);
        x.night();
        x.patch(2, 0);
        x.snow(5);
        x.fire(0, 20);
        check.due("five acts", x.has(12), 5);
        check.due("led", x.has(11), 3);
        for (int k = 4; k >= 0; k--) {
            check.due("undo", x.undo(), true);
            check.due("acts left", x.has(12), k);
        }
        check.due("no more", x.undo(), false);
        check.due("nothing is led", x.has(11), 0);
        x.image();
        for (int k = 0; k < 64; k++) {
            check.due("all as it was " + k, x.octet(k), before[k]);
        }
        for (int k = 0; k < 25; k++) {
            x.snow(k % 10);
        }
        check.due("the last 20", x.has(12), 20);
        int undone = 0;
        for (int k = 0; k < 25; k++) {
            undone += x.undo() ? 1 : 0;
        }
        check.due("20 undone", undone, 20);
        check.due("snow of the 5th", x.has(8), 4);
        // what is refused is no act
        x.snow(10);
        x.patch(0, 0);
        x.fire(9, 0);
        x.go(5);
        check.due("no acts", x.has(12), 0);
    }

    private static void seeds() {
        String text = "owner o;lot a of o height 0 tiles 0;rain 50;";
        for (int seed : new int[] {0, 1, 2, 12345, 2147483647}) {
            TileHeel x = Check.told(text);
            check.due("seed " + seed, x.seed(seed), true);
            check.due("no seed -1", x.seed(-1), false);
            check.due("no seed min", x.seed(Integer.MIN_VALUE), false);
            long due = seed;
            int purse = 0;
            for (int k = 0; k < 50; k++) {
                due = (1103515245L * due + 12345L) % 2147483648L;
                purse -= due / 64 % 100 < 50 ? 1 : 0;
                x.night();
                check.due("seed " + seed + " night " + k, x.purse(0), purse);
            }
        }
        TileHeel x = Check.told(text);
        x.seed(77);
        check.due("seed is no act", x.has(12), 0);
        // the seed stays when a night is undone: the next one draws on
        long first = (1103515245L * 77 + 12345L) % 2147483648L;
        long second = (1103515245L * first + 12345L) % 2147483648L;
        x.night();
        x.undo();
        x.night();
        check.due("the second draw", x.purse(0), second / 64 % 100 < 50 ? -1 : 0);
    }

    private static void leading() {
        TileHeel x = Check.told(ROW + P + "person r weight 99 leap 2 climb 0 heel 1 at c to d;");
        check.due("night", x.night(), 2);
        check.due("p goes back", x.go(0), 5 - 4);
        int[][] due = {{0, 1, 0}, {0, 3, 1}, {1, 1, 0}, {1, 0, 0}};
        for (int k = 0; k < due.length; k++) {
            for (int what = 0; what < 3; what++) {
                check.due("led(" + k + "," + what + ")", x.led(k, what), due[k][what]);
            }
            check.due("led what 3", x.led(k, 3), NONE);
            check.due("led what -1", x.led(k, -1), NONE);
        }
        check.due("led 4", x.led(4, 0), NONE);
        check.due("led -1", x.led(-1, 0), NONE);
        check.due("told", x.has(11), 4);
        check.due("to p", x.person(0, 6), 3);
        check.due("to r", x.person(1, 6), 1);
        // more than 60: each of three breaks one tile a night, then the oldest are told no more
        StringBuilder text = new StringBuilder("owner o;carry 1;");
        for (char c = 'a'; c < 'g'; c++) {
            text.append("lot ").append(c).append(" of o height 0 tiles 30;");
        }
        text.append("gap a b wide 0;gap c d wide 0;gap e f wide 0;");
        text.append("person p weight 99 leap 0 climb 0 heel 0 at a to b;");
        text.append("person q weight 99 leap 0 climb 0 heel 0 at c to d;");
        text.append("person r weight 99 leap 0 climb 0 heel 0 at e to f;");
        TileHeel y = Check.told(text.toString());
        for (int k = 0; k < 20; k++) {
            check.due("one of each", y.night(), 3);
        }
        check.due("60", y.has(11), 60);
        check.due("the oldest is of night 0", y.led(0, 0), 0);
        check.due("night 20", y.night(), 3);
        check.due("60 still", y.has(11), 60);
        check.due("the oldest is of night 1", y.led(0, 0), 1);
        check.due("the latest is of night 20", y.led(59, 0), 20);
        check.due("a go more", y.go(2), 0);
        check.due("of p", y.person(0, 6), 19);
        check.due("of r", y.person(2, 6), 21);
        check.due("undone", y.undo(), true);
        check.due("of p", y.person(0, 6), 20);
        check.due("undone", y.undo(), true);
        check.due("the oldest is told again", y.led(0, 0), 0);
        check.due("the latest is of night 19", y.led(59, 0), 19);
    }
}
