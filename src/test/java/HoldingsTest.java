/** Promises 6 to 11: has, letter, lot, gap, person, purse. */
public final class HoldingsTest {
    private static final int NONE = TileHeel.NONE;
    private static final String TEXT = "owner ann; owner zorro; lot roof of zorro height 7 tiles 12;"
        + "lot barn of ann height 0 tiles 0; lot x of ann height 20 tiles 30; inn roof beds 2; inn x beds 1; stork x;"
        + "gap roof barn wide 9; gap x roof wide 0;"
        + "person abcdef weight 61 leap 9 climb 20 heel 3 at roof to x;"
        + "person gh weight 1 leap 0 climb 0 heel 9 at roof to barn;"
        + "toll ann 3 when all; bar zorro when night > 5; toll zorro 2 when all; carry 2; carry 5; rain 9; rain 33;";

    public static void main(String[] args) {
        Check check = new Check("HoldingsTest");
        counts(check);
        letters(check);
        lotsAndGaps(check);
        people(check);
        check.close();
    }

    private static void counts(Check check) {
        TileHeel x = Check.told(TEXT);
        int[] due = {2, 3, 2, 2, 3, 5, 33, 0, 0, 42, 1, 0, 0};
        for (int what = 0; what < due.length; what++) {
            check.due("has(" + what + ")", x.has(what), due[what]);
        }
        check.due("has(-1)", x.has(-1), NONE);
        check.due("has(13)", x.has(13), NONE);
        check.due("has(max)", x.has(Integer.MAX_VALUE), NONE);
        x.patch(0, 1);
        check.due("a hole less", x.has(10), 0);
        check.due("as many tiles", x.has(9), 42);
        check.due("an act", x.has(12), 1);
        x.fire(0, 0);
        check.due("tiles burnt", x.has(9), 31);
        check.due("a hole more", x.has(10), 1);
        check.due("burnt ones are led to nobody", x.has(11), 0);
        x.snow(4);
        x.night();
        check.due("night", x.has(7), 1);
        check.due("snow", x.has(8), 4);
        check.due("acts", x.has(12), 4);
    }

    private static void letters(Check check) {
        TileHeel x = Check.told(TEXT);
        check.due("z", x.letter(0, 1, 0), 26);
        check.due("o", x.letter(0, 1, 4), 15);
        check.due("behind zorro", x.letter(0, 1, 5), 0);
        check.due("no 7th", x.letter(2, 0, 6), NONE);
        check.due("no letter -1", x.letter(2, 0, -1), NONE);
        for (int k = 0; k < 6; k++) {
            check.due("abcdef " + k, x.letter(2, 0, k), k + 1);
        }
        check.due("lot x", x.letter(1, 2, 0), 24);
        check.due("behind x", x.letter(1, 2, 1), 0);
        check.due("no owner 2", x.letter(0, 2, 0), NONE);
        check.due("no lot 3", x.letter(1, 3, 0), NONE);
        check.due("no lot -1", x.letter(1, -1, 0), NONE);
        check.due("no person 2", x.letter(2, 2, 0), NONE);
        check.due("kind 3", x.letter(3, 0, 0), NONE);
        check.due("kind -1", x.letter(-1, 0, 0), NONE);
    }

    private static void lotsAndGaps(Check check) {
        TileHeel x = Check.told(TEXT);
        int[][] due = {{1, 7, 12, 2, 0, 2, 1}, {0, 0, 0, 0, 0, 0, 0}, {0, 20, 30, 1, 1, 0, 0}};
        for (int lot = 0; lot < 3; lot++) {
            for (int what = 0; what < 7; what++) {
                check.due("lot(" + lot + "," + what + ")", x.lot(lot, what), due[lot][what]);
            }
            check.due("lot what -1", x.lot(lot, -1), NONE);
            check.due("lot what 7", x.lot(lot, 7), NONE);
        }
        check.due("lot 3", x.lot(3, 0), NONE);
        check.due("lot -1", x.lot(-1, 2), NONE);
        check.due("gap", x.gap(0, 1), 9);
        check.due("gap the other way", x.gap(1, 0), 9);
        check.due("gap 0", x.gap(0, 2), 0);
        check.due("no gap", x.gap(1, 2), NONE);
        check.due("no gap to itself", x.gap(0, 0), NONE);
        check.due("gap of lot 3", x.gap(0, 3), NONE);
        check.due("gap of lot -1", x.gap(-1, 0), NONE);
        x.snow(9);
        check.due("gap in snow", x.gap(0, 1), 9);
        // he goes to x: roof's inn has one guest for two beds, x's has one for one
        check.due("he goes", x.go(0), 0);
        check.due("roof is not full", x.lot(0, 6), 0);
        check.due("x is full", x.lot(2, 6), 1);
        check.due("who is at x", x.lot(2, 5), 1);
    }

    private static void people(Check check) {
        TileHeel x = Check.told(TEXT);
        int[][] due = {{61, 9, 20, 3, 0, 2, 0}, {1, 0, 0, 9, 0, 1, 0}};
        for (int person = 0; person < 2; person++) {
            for (int what = 0; what < 7; what++) {
                check.due("person(" + person + "," + what + ")", x.person(person, what), due[person][what]);
            }
            check.due("person what 7", x.person(person, 7), NONE);
            check.due("person what -1", x.person(person, -1), NONE);
        }
        check.due("person 2", x.person(2, 0), NONE);
        check.due("person -1", x.person(-1, 0), NONE);
        check.due("he goes", x.go(0), 3);
        check.due("he is at x", x.person(0, 4), 2);
        check.due("and goes back next", x.person(0, 5), 0);
        check.due("purse of ann", x.purse(0), 3);
        check.due("purse of zorro", x.purse(1), 0);
        check.due("purse 2", x.purse(2), TileHeel.NOTHING);
        check.due("purse -1", x.purse(-1), TileHeel.NOTHING);
        // 61 is above 5 times 12 tiles of roof: one breaks, then (11 tiles) another one on the next visit
        check.due("back", x.go(0), 2);
        check.due("led to him", x.person(0, 6), 1);
        check.due("roof has 11", x.lot(0, 2), 11);
        check.due("not to her", x.person(1, 6), 0);
    }
}
