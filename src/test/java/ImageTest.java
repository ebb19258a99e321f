/** Promises 31 to 33: image, octet, on. */
public final class ImageTest {
    private static final int NONE = TileHeel.NONE;
    private static final String TEXT = "owner o;owner q;lot a of o height 0 tiles 30;lot b of q height 0 tiles 2;"
        + "lot c of o height 0 tiles 0;gap a b wide 0;person p weight 20 leap 0 climb 0 heel 0 at a to b;"
        + "person r weight 1 leap 0 climb 0 heel 0 at c to a;toll q 258 when all;rain 100;";
    private static Check check;

    public static void main(String[] args) {
        check = new Check("ImageTest");
        writing();
        reading();
        refusing();
        check.close();
    }

    private static void bytesAre(String what, TileHeel x, int... due) {
        String all = Check.image(due);
        check.due(what + ": length", x.image(), all.length());
        for (int k = 0; k < all.length(); k++) {
            check.due(what + ": byte " + k, x.octet(k), all.charAt(k));
        }
        check.due(what + ": behind it", x.octet(all.length()), NONE);
        check.due(what + ": ahead of it", x.octet(-1), NONE);
    }

    private static void writing() {
        TileHeel x = new TileHeel();
        check.due("no image yet", x.octet(0), NONE);
        bytesAre("nothing", x, 0, 0, 0);
        check.due("131 with three zeros", x.octet(3), 248);
        Check.town(x, TEXT);
        check.due("the latest image stays", x.octet(3), 248);
        check.due("and its end", x.octet(4), NONE);
        bytesAre("at first", x, 0, 0, 0, 30, 2, 0, 0, 1, 2, 0, 0, 0, 0, 0, 0, 0, 0, 0);
        check.due("go", x.go(0), 258);
        x.night();
        x.snow(7);
        check.due("octet is of the latest image()", x.octet(3), 30);
        // p went to b (it broke: 20 > 5 * 2), and back by night; b and c leak
        bytesAre("later", x, 0, 1, 7, 30, 1, 0, 0, 1, 2, 0, 255, 255, 255, 255, 0, 0, 1, 1);
        x.undo();
        x.undo();
        for (int k = 0; k < 300; k++) {
            x.night();
        }
        x.image();
        check.due("night, high", x.octet(0), 1);
        check.due("night, low", x.octet(1), 44);
    }

    private static boolean on(TileHeel x, int... bytes) {
        Check.feed(x, Check.image(bytes));
        return x.on();
    }

    private static void reading() {
        TileHeel x = Check.told(TEXT);
        x.seed(5);
        x.go(0);
        check.due("led", x.has(11), 1);
        check.due("on", on(x, 3, 231, 9, 0, 30, 1, 1, 0, 2, 0, 127, 255, 255, 255, 255, 255, 255, 254), true);
        check.due("night", x.has(7), 999);
        check.due("snow", x.has(8), 9);
        check.due("a", x.lot(0, 2), 0);
        check.due("b", x.lot(1, 2), 30);
        check.due("c", x.lot(2, 2), 1);
        check.due("p at", x.person(0, 4), 1);
        check.due("p to", x.person(0, 5), 0);
        check.due("r at", x.person(1, 4), 2);
        check.due("r to", x.person(1, 5), 0);
        check.due("purse o", x.purse(0), 2147483647);
        check.due("purse q", x.purse(1), -2);
        check.due("nothing is led", x.has(11), 0);
        check.due("nothing led to p", x.person(0, 6), 0);
        check.due("nothing can be undone", x.undo(), false);
        check.due("the tape went", x.end(1), false);
        check.due("heights stay", x.has(4), 1);
        bytesAre("as it was told", x, 3, 231, 9, 0, 30, 1, 1, 0, 2, 0, 127, 255, 255, 255, 255, 255, 255, 254);
    }

    private static void refused(String what, String bytes) {
        TileHeel x = Check.told(TEXT);
        x.go(0);
        x.snow(4);
        Check.feed(x, bytes);
        check.due(what, x.on(), false);
        check.due(what + ": the tape went", x.end(1), false);
        check.due(what + ": led", x.has(11), 1);
        check.due(what + ": acts", x.has(12), 2);
        check.due(what + ": night", x.has(7), 0);
        check.due(what + ": snow", x.has(8), 4);
        check.due(what + ": tiles", x.has(9), 31);
        check.due(what + ": p", x.person(0, 4), 1);
        check.due(what + ": purse", x.purse(1), 258);
    }

    private static void refusing() {
        String right = Check.image(1, 2, 3, 4, 5, 6, 1, 0, 0, 2, 0, 0, 0, 9, 0, 0, 0, 8);
        TileHeel x = Check.told(TEXT);
        Check.feed(x, right);
        check.due("right", x.on(), true);
        refused("empty", "");
        refused("too short", right.substring(0, right.length() - 1));
        refused("too long", right + "\0");
        refused("last byte", right.substring(0, right.length() - 1) + (char) (right.charAt(right.length() - 1) ^ 1));
        refused("a byte", right.replace((char) 5, (char) 7));
        refused("short one of its own", Check.image(1, 2, 3, 4, 5, 6, 1, 0, 0, 2, 0, 0, 0, 9, 0, 0, 0));
        refused("long one of its own", Check.image(1, 2, 3, 4, 5, 6, 1, 0, 0, 2, 0, 0, 0, 9, 0, 0, 0, 8, 0));
        refused("night 1000", Check.image(3, 232, 3, 4, 5, 6, 1, 0, 0, 2, 0, 0, 0, 9, 0, 0, 0, 8));
        refused("night high", Check.image(255, 0, 3, 4, 5, 6, 1, 0, 0, 2, 0, 0, 0, 9, 0, 0, 0, 8));
        refused("snow 10", Check.image(1, 2, 10, 4, 5, 6, 1, 0, 0, 2, 0, 0, 0, 9, 0, 0, 0, 8));
        refused("31 tiles first", Check.image(1, 2, 3, 31, 5, 6, 1, 0, 0, 2, 0, 0, 0, 9, 0, 0, 0, 8));
        refused("31 tiles last", Check.image(1, 2, 3, 4, 5, 31, 1, 0, 0, 2, 0, 0, 0, 9, 0, 0, 0, 8));
        refused("p to where he is", Check.image(1, 2, 3, 4, 5, 6, 1, 1, 0, 2, 0, 0, 0, 9, 0, 0, 0, 8));
        refused("p at c", Check.image(1, 2, 3, 4, 5, 6, 2, 0, 0, 2, 0, 0, 0, 9, 0, 0, 0, 8));
        refused("p to c", Check.image(1, 2, 3, 4, 5, 6, 1, 2, 0, 2, 0, 0, 0, 9, 0, 0, 0, 8));
        refused("r at b", Check.image(1, 2, 3, 4, 5, 6, 1, 0, 1, 2, 0, 0, 0, 9, 0, 0, 0, 8));
        refused("r to 255", Check.image(1, 2, 3, 4, 5, 6, 1, 0, 0, 255, 0, 0, 0, 9, 0, 0, 0, 8));
        TileHeel none = new TileHeel();
        check.due("empty tape, no town", none.on(), false);
        Check.feed(none, Check.image(0, 5, 2));
        check.due("an image of no town", none.on(), true);
        check.due("its night", none.has(7), 5);
        check.due("its snow", none.has(8), 2);
    }
}
