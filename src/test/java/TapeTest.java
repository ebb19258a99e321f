/** Promises 1 to 3: a new object, feed, end. */
public final class TapeTest {
    private static final int BLANKS = 0x20202020;

    public static void main(String[] args) {
        Check check = new Check("TapeTest");
        newObject(check);
        feeding(check);
        ending(check);
        check.close();
    }

    private static void newObject(Check check) {
        TileHeel x = new TileHeel();
        for (int what = 0; what <= 12; what++) {
            check.due("new: has(" + what + ")", x.has(what), what == 5 ? 5 : 0);
        }
        check.due("new: lot", x.lot(0, 0), TileHeel.NONE);
        check.due("new: person", x.person(0, 0), TileHeel.NONE);
        check.due("new: purse", x.purse(0), TileHeel.NOTHING);
        check.due("new: undo", x.undo(), false);
        check.due("new: octet", x.octet(0), TileHeel.NONE);
        check.due("NONE", TileHeel.NONE, -1);
        check.due("NOTHING", TileHeel.NOTHING, -1000000000);
    }

    private static void feeding(Check check) {
        TileHeel x = new TileHeel();
        for (int k = 1; k <= 80; k++) {
            check.due("feed " + k, x.feed(BLANKS, BLANKS, BLANKS, BLANKS, BLANKS), 20 * k);
        }
        check.due("feed 81", x.feed(BLANKS, BLANKS, BLANKS, BLANKS, BLANKS), TileHeel.NONE);
        check.due("still 1600", x.end(1600), true);
        check.due("to 1581", x.end(1581), true);
        check.due("feed to 1601", x.feed(BLANKS, BLANKS, BLANKS, BLANKS, BLANKS), TileHeel.NONE);
        check.due("to 1580", x.end(1580), true);
        check.due("feed to 1600", x.feed(BLANKS, BLANKS, BLANKS, BLANKS, BLANKS), 1600);
        // of each number the highest byte first, and bytes above 127 are no blanks
        TileHeel y = new TileHeel();
        y.feed(0x6f776e65, 0x7220613b, BLANKS, BLANKS, BLANKS);
        check.due("owner a;", y.town(), 1);
        check.due("its name", y.letter(0, 0, 0), 1);
        y.feed(BLANKS, BLANKS, 0x202020ff, BLANKS, BLANKS);
        check.due("byte 255", y.town(), TileHeel.NONE);
        check.due("byte 255 at", y.fault(1), 11);
    }

    private static void ending(Check check) {
        TileHeel x = new TileHeel();
        check.due("end(0) of nothing", x.end(0), true);
        check.due("end(1) of nothing", x.end(1), false);
        check.due("end(-1)", x.end(-1), false);
        x.feed(0x6f776e65, 0x7220613b, 0x6f776e65, 0x7220623b, BLANKS);
        check.due("end(21)", x.end(21), false);
        check.due("end(-1)", x.end(-1), false);
        check.due("end(min)", x.end(Integer.MIN_VALUE), false);
        check.due("end(20)", x.end(20), true);
        check.due("end(8)", x.end(8), true);
        check.due("end(9) now", x.end(9), false);
        check.due("feed behind it", x.feed(BLANKS, BLANKS, BLANKS, BLANKS, BLANKS), 28);
        check.due("one owner is told", x.town(), 1);
        check.due("the tape went", x.feed(BLANKS, BLANKS, BLANKS, BLANKS, BLANKS), 20);
    }
}
