/** Promises 24 to 30: burns, stopped, opened, broke, worth, reach, leaks. */
public final class WouldBeTest {
    private static final int NONE = TileHeel.NONE;
    private static Check check;

    public static void main(String[] args) {
        check = new Check("WouldBeTest");
        burning();
        stopping();
        opening();
        breaking();
        worths();
        reaching();
        leaking();
        check.close();
    }

    private static void burning() {
        TileHeel x = Check.told("owner o;lot a of o height 0 tiles 1;lot b of o height 20 tiles 2;"
            + "lot c of o height 0 tiles 0;lot d of o height 0 tiles 4;lot e of o height 0 tiles 8;"
            + "lot f of o height 0 tiles 16;stork b;"
            + "gap a b wide 1;gap b c wide 0;gap c d wide 0;gap b e wide 1;gap e f wide 2;gap e d wide 0;");
        int[] due = {1, 3, 19, 27, 27};
        for (int n = 0; n < due.length; n++) {
            check.due("burns(0," + n + ")", x.burns(0, n), due[n]);
        }
        check.due("20 minutes", x.burns(0, 20), 27);
        check.due("from d", x.burns(3, 1), 24);
        check.due("f alone", x.burns(5, 20), 32);
        check.due("a hole", x.burns(2, 0), NONE);
        check.due("21 minutes", x.burns(0, 21), NONE);
        check.due("-1 minutes", x.burns(0, -1), NONE);
        check.due("no lot 6", x.burns(6, 0), NONE);
        check.due("no lot -1", x.burns(-1, 0), NONE);
        check.due("nothing has burnt", x.has(9), 31);
        check.due("no act", x.has(12), 0);
    }

    private static final String P = "person p weight 1 leap 9 climb 9 heel 0 at a to e;";

    private static void stopped(String what, TileHeel x, int tiles, int bits) {
        check.due("stopped tiles: " + what, x.stopped(0, 0), tiles);
        check.due("stopped bits: " + what, x.stopped(0, 1), bits);
        check.due("stopped what 2", x.stopped(0, 2), NONE);
        check.due("stopped what -1", x.stopped(0, -1), NONE);
        check.due("stopped nobody", x.stopped(1, 0), NONE);
        check.due("stopped nobody -1", x.stopped(-1, 1), NONE);
    }

    /** Five lots with these tiles; gaps as pairs of letters. */
    private static String town(String gaps, int... tiles) {
        StringBuilder text = new StringBuilder("owner o;");
        for (int k = 0; k < tiles.length; k++) {
            text.append("lot ").append((char) ('a' + k)).append(" of o height 0 tiles ").append(tiles[k]).append(';');
        }
        for (int k = 0; k + 1 < gaps.length(); k += 3) {
            text.append("gap ").append(gaps.charAt(k)).append(' ').append(gaps.charAt(k + 1)).append(" wide 2;");
        }
        return text.toString();
    }

    private static void stopping() {
        stopped("one lot of two", Check.told(town("ab bc ce", 1, 7, 5, 1, 1) + P), 5, 4);
        stopped("both sides", Check.told(town("ab be ac ce", 1, 7, 5, 1, 1) + P), 12, 6);
        stopped("least bits of like ones", Check.told(town("ab bc ce", 1, 5, 5, 1, 1) + P), 5, 2);
        stopped("two small ones for a large one", Check.told(town("ab ac bd cd de", 1, 2, 3, 6, 1) + P), 5, 6);
        stopped("a stork's are kept", Check.told(town("ab bc ce", 1, 7, 5, 1, 1) + P + "stork c;"), 7, 2);
        stopped("a straight way", Check.told(town("ab be ae", 1, 7, 5, 1, 1) + P), NONE, NONE);
        stopped("storks alone", Check.told(town("ab be", 1, 7, 5, 1, 1) + P + "stork b;"), NONE, NONE);
        stopped("he has none", Check.told(town("ab bc", 1, 7, 5, 1, 1) + P), 0, 0);
        stopped("a barred side is none", Check.told(town("ab be ac ce", 1, 7, 5, 1, 1) + P
            + "bar o when tiles=7;"), 5, 4);
        stopped("a hole is none", Check.told(town("ab be ac ce", 1, 0, 5, 1, 1) + P), 5, 4);
        TileHeel x = Check.told(town("ab bc ce", 1, 7, 5, 1, 1) + P);
        x.stopped(0, 0);
        check.due("nothing was taken", x.has(9), 15);
        check.due("no act", x.has(12), 0);
    }

    private static void opened(String what, TileHeel x, int holes, int bits) {
        check.due("opened holes: " + what, x.opened(0, 0), holes);
        check.due("opened bits: " + what, x.opened(0, 1), bits);
        check.due("opened what 2", x.opened(0, 2), NONE);
        check.due("opened what -1", x.opened(0, -1), NONE);
        check.due("opened nobody", x.opened(1, 0), NONE);
        check.due("opened nobody -1", x.opened(-1, 1), NONE);
    }

    private static void opening() {
        opened("he has a way", Check.told(town("ab be", 0, 1, 0, 0, 1) + P), 0, 0);
        opened("one hole", Check.told(town("ab be", 1, 0, 0, 0, 1) + P), 1, 2);
        opened("the end, too", Check.told(town("ab be", 1, 0, 0, 0, 0) + P), 2, 18);
        opened("the fewest", Check.told(town("ab bc ce ad de", 1, 0, 0, 0, 1) + P), 1, 8);
        opened("the least bits", Check.told(town("ab be ac ce ad de", 1, 0, 0, 0, 1) + P), 1, 2);
        opened("no gaps", Check.told(town("ab ce", 1, 0, 0, 0, 1) + P), NONE, NONE);
        opened("barred with none, not with one", Check.told(town("ab be", 1, 0, 0, 0, 1) + P
            + "bar o when tiles=0;"), 1, 2);
        opened("barred with one", Check.told(town("ab be", 2, 0, 0, 0, 2) + P + "bar o when tiles=1;"), NONE, NONE);
        opened("barred with one: another side", Check.told(town("ab bc ce ad de", 2, 0, 2, 0, 2)
            .replace("d of o height 0", "d of o height 1") + P + "bar o when tiles=1 and height=1;"), 1, 2);
        TileHeel x = Check.told(town("ab be", 2, 0, 0, 0, 2) + P + "bar o when tiles=1;");
        x.snow(1);
        opened("nobody is barred in snow", x, 1, 2);
        check.due("nothing was laid", x.has(10), 3);
    }

    private static void breaking() {
        // a to e by b; carry 5, b has 2 tiles: it breaks under 11 and more
        String town = town("ab be de", 9, 2, 9, 9, 3);
        TileHeel x = Check.told(town
            + "person p weight 11 leap 9 climb 0 heel 3 at a to e;"
            + "person q weight 10 leap 9 climb 0 heel 3 at a to e;"
            + "person r weight 99 leap 9 climb 0 heel 3 at e to a;"
            + "person s weight 99 leap 9 climb 0 heel 4 at e to b;"
            + "person t weight 99 leap 9 climb 0 heel 3 at b to e;"
            + "person u weight 98 leap 1 climb 0 heel 3 at a to e;");
        check.due("how many", x.broke(1, 3, NONE), 2);
        check.due("bits", x.broke(1, 3, 20), 5);
        check.due("odds of p", x.broke(1, 3, 0), 500);
        check.due("odds of q, too light", x.broke(1, 3, 1), 0);
        check.due("odds of r", x.broke(1, 3, 2), 500);
        check.due("odds of s, another heel", x.broke(1, 3, 3), 0);
        check.due("odds of t, who is there", x.broke(1, 3, 4), 0);
        check.due("odds of u, without a way", x.broke(1, 3, 5), 0);
        check.due("no person 6", x.broke(1, 3, 6), NONE);
        check.due("k 19", x.broke(1, 3, 19), NONE);
        check.due("k 21", x.broke(1, 3, 21), NONE);
        check.due("k -2", x.broke(1, 3, -2), NONE);
        check.due("heel 4", x.broke(1, 4, 20), 8);
        check.due("odds of s", x.broke(1, 4, 3), 1000);
        check.due("heel 0: nobody", x.broke(1, 0, NONE), 0);
        check.due("heel 0: odds", x.broke(1, 0, 0), 0);
        check.due("heel 9: nobody", x.broke(1, 9, NONE), 0);
        check.due("heel -1", x.broke(1, -1, NONE), NONE);
        check.due("heel 10", x.broke(1, 10, 20), NONE);
        check.due("no lot 5", x.broke(5, 3, NONE), NONE);
        check.due("no lot -1", x.broke(-1, 3, NONE), NONE);
        check.due("the end counts", x.broke(4, 3, 20), 16);
        check.due("a lot on no way", x.broke(3, 3, 20), 0);
        TileHeel three = Check.told(town
            + "person p weight 11 leap 9 climb 0 heel 3 at a to e;"
            + "person q weight 12 leap 9 climb 0 heel 3 at a to e;"
            + "person r weight 99 leap 9 climb 0 heel 3 at e to a;");
        check.due("a third, floored", three.broke(1, 3, 1), 333);
    }

    private static void worths() {
        // a to e by b (2 coins) or by c (5 coins); r goes c to d alone, by the one gap
        String town = town("ab be ac ce cd", 1, 2, 5, 1, 1) + "toll o tiles when height=0 and tiles>1;";
        TileHeel x = Check.told(town + P + "person r weight 1 leap 9 climb 0 heel 3 at c to d;");
        check.due("b is cheaper", x.worth(0, 1), 3);
        check.due("either way", x.worth(1, 0), 3);
        check.due("its other gap", x.worth(1, 4), 3);
        check.due("not needed", x.worth(0, 2), 0);
        check.due("r's only gap", x.worth(2, 3), 1000);
        check.due("no gap", x.worth(0, 4), TileHeel.NOTHING);
        check.due("one lot", x.worth(1, 1), TileHeel.NOTHING);
        check.due("no lot 5", x.worth(0, 5), TileHeel.NOTHING);
        check.due("no lot -1", x.worth(-1, 0), TileHeel.NOTHING);
        TileHeel nobody = Check.told(town);
        check.due("nobody", nobody.worth(0, 1), 0);
        // a way of more than 1000 coins: without it he counts less
        TileHeel dear = Check.told(town("ab be", 1, 1, 1, 1, 1) + P + "toll o 999 when all;");
        check.due("worth below 0", dear.worth(0, 1), 1000 - 1998);
        check.due("nothing was cut", dear.way(0, NONE), 1998);
    }

    private static void reaching() {
        TileHeel x = Check.told(town("ab bc cd de", 0, 1, 1, 0, 1) + P + "person q weight 1 leap 1 climb 0 heel 3 at c to d;");
        check.due("up to the hole, himself there, too", x.reach(0), 7);
        check.due("too wide for q", x.reach(1), 4);
        check.due("nobody", x.reach(2), NONE);
        check.due("nobody -1", x.reach(-1), NONE);
        x.snow(1);
        check.due("in snow not back to hole a", x.reach(1), 6);
        TileHeel barred = Check.told(town("ab bc cd de", 1, 1, 2, 1, 1) + P + "bar o when tiles=2;");
        check.due("not past a barred one", barred.reach(0), 3);
    }

    private static void leaking() {
        TileHeel x = Check.told(town("ab ", 0, 1, 2, 3, 30));
        check.due("fewer than 3", x.leaks(), 7);
        x.patch(4, 2);
        check.due("c is tight now", x.leaks(), 3);
        check.due("nobody pays", x.purse(0), 0);
        check.due("no lots", new TileHeel().leaks(), 0);
    }
}
