import java.util.ArrayList;
import java.util.Arrays;
import java.util.List;

/** Terms III: AN IMAGE; promises 31 to 33: image, octet, on. */
final class ImageSentences {
    private static final int NONE = TileHeel.NONE;
    private static final int MAX = Integer.MAX_VALUE;
    private static final int MIN = Integer.MIN_VALUE;
    /** AN IMAGE of Lives.TOWN as it is told, but for its last byte. */
    private static final int[] FIRST = {0, 0, 0, 3, 2, 30, 0, 0, 2, 2, 3, 0, 0, 0, 0, 0, 0, 0, 0};
    private static final int TILES_AT = 3;
    private static final int PERSONS_AT = 7;
    private static final int PURSES_AT = 11;

    private final Ledger ledger;

    private ImageSentences(Ledger ledger) {
        this.ledger = ledger;
    }

    static void hold(Ledger ledger) {
        ImageSentences all = new ImageSentences(ledger);
        ledger.section("Terms");
        all.imageTerms();
        all.image();
        all.octet();
        all.on();
    }

    private void bytesAre(String when, TileHeel x, int... due) {
        String all = Check.image(due);
        ledger.due(when + ": how many", x.image(), due.length + 1);
        for (int k = 0; k < all.length(); k++) {
            ledger.due(when + ": byte " + k, x.octet(k), all.charAt(k));
        }
        ledger.due(when + ": behind it", x.octet(all.length()), NONE);
    }

    private static boolean on(TileHeel x, int... bytes) {
        Check.feed(x, Check.image(bytes));
        return x.on();
    }

    private static int[] with(int place, int... bytes) {
        int[] image = FIRST.clone();
        System.arraycopy(bytes, 0, image, place, bytes.length);
        return image;
    }

    private void imageTerms() {
        ledger.sentence("AN IMAGE: NIGHT (two bytes, the higher first), SNOW; for each LOT its tiles; for each PERSON the LOT he "
            + "is at, the one he goes to; for each OWNER his PURSE (four bytes, the highest first);");
        bytesAre("nothing", new TileHeel(), 0, 0, 0);
        bytesAre("at first", Check.told(Lives.TOWN), FIRST);
        TileHeel x = Check.told(Lives.TOWN);
        x.seed(Lives.seedOf(0));
        x.go(0);
        x.snow(9);
        x.night();
        // p paid 2 and went; back in snow for nothing; b is broken down, it and d leak
        bytesAre("later", x, 0, 1, 9, 3, 0, 30, 0, 0, 2, 2, 3, 0, 0, 0, 0, 0, 0, 0, 0);
        for (int night : new int[] {255, 256, 998, 999}) {
            TileHeel y = Check.told(Lives.TOWN);
            ledger.due("night " + night, on(y, with(0, night / 256, night % 256)), true);
            bytesAre("night " + night, y, with(0, night / 256, night % 256));
        }
        for (int[] purse : new int[][] {{0, 0, 0, 255}, {0, 0, 1, 0}, {1, 2, 3, 4}, {127, 255, 255, 255}, {128, 0, 0, 0},
            {255, 255, 255, 255}}) {
            TileHeel y = Check.told(Lives.TOWN);
            ledger.due("a purse", on(y, with(PURSES_AT + 4, purse)), true);
            bytesAre("a purse", y, with(PURSES_AT + 4, purse));
            ledger.due("the purse", y.purse(1), purse[0] << 24 | purse[1] << 16 | purse[2] << 8 | purse[3]);
        }
        TileHeel large = Check.told(Lives.largest());
        bytesAre("the largest", large, 0, 0, 0, 2, 3, 4, 5, 6, 7, 8, 9, 10, 11, 0, 4, 1, 5, 2, 6, 3, 7, 4, 8, 5, 9,
            0, 0, 0, 0, 0, 0, 0, 0, 0, 0, 0, 0, 0, 0, 0, 0, 0, 0, 0, 0);

        ledger.sentence("last a byte: all ahead from 131 on, c = (3 c + it) mod 253.");
        TileHeel z = new TileHeel();
        z.image();
        // 3 * 131 mod 253 = 140, 3 * 140 mod 253 = 167, 3 * 167 mod 253 = 248
        ledger.due("three zeros", z.octet(3), 248);
        z.snow(4);
        z.image();
        ledger.due("248 + 4", z.octet(3), 252);
        z.snow(5);
        z.image();
        ledger.due("248 + 5", z.octet(3), 0);
        z.snow(6);
        z.image();
        ledger.due("248 + 6", z.octet(3), 1);
        z.night();
        z.image();
        // 140, 421 mod 253 = 168, 510 mod 253 = 4
        ledger.due("night 1, snow 6", z.octet(3), 4);
    }

    private void image() {
        ledger.section("Promise 31: image");
        ledger.sentence("AN IMAGE is written: how many bytes.");
        ledger.due("of nothing", new TileHeel().image(), 4);
        ledger.due("of owners alone", Check.told(TextChecks.FIVE_OWNERS).image(), 24);
        ledger.due("of ten lots", Check.told(TextChecks.lots(10)).image(), 18);
        ledger.due("of six persons", Check.told(TextChecks.persons(6)).image(), 22);
        ledger.due("the largest", Check.told(Lives.largest()).image(), 46);
        TileHeel called = new TileHeel();
        TileHeel other = new TileHeel();
        Lives.lived(called);
        Lives.lived(other);
        ledger.due("of a town", called.image(), 20);
        ledger.same("but for the latest image", Everything.butForImage(called), Everything.butForImage(other));
    }

    private void octet() {
        ledger.section("Promise 32: octet");
        ledger.sentence("Byte k of the latest image();");
        TileHeel x = Check.told(Lives.TOWN);
        x.image();
        x.snow(3);
        ledger.due("the latest", x.octet(2), 0);
        x.image();
        ledger.due("another one", x.octet(2), 3);
        ledger.due("the first", x.octet(0), 0);
        ledger.due("tiles", x.octet(5), 30);
        Check.town(x, "");
        ledger.due("behind another town", x.octet(5), 30);
        x.image();
        ledger.due("of no lots", x.octet(2), 0);
        ledger.sentence("NONE when there is none such.");
        ledger.due("behind a short one", x.octet(4), NONE);
        ledger.due("ahead of any", new TileHeel().octet(0), NONE);
        TileHeel y = Check.told(Lives.largest());
        y.image();
        ledger.due("the last of the largest", y.octet(45) >= 0, true);
        for (int k : new int[] {-1, 46, 47, 64, MAX, MIN}) {
            ledger.due("octet " + k, y.octet(k), NONE);
        }
        ledger.asks("octet", TileHeel::octet);
    }

    private void on() {
        ledger.section("Promise 33: on");
        ledger.sentence("The tape (it goes) is AN IMAGE of this TOWN: true, all is as it tells, nothing is LED or can be undone;");
        TileHeel x = new TileHeel();
        Lives.lived(x);
        ledger.due("on", on(x, 3, 231, 9, 0, 30, 1, 4, 2, 0, 3, 2, 127, 255, 255, 255, 255, 255, 255, 254), true);
        asTold(x);
        ledger.due("the tape went", x.end(1), false);
        ledger.due("as it was told", on(x, FIRST), true);
        TileHeel plain = Check.told(Lives.TOWN);
        plain.seed(5);
        x.seed(5);
        ledger.same("as a new town", Everything.butForImage(x), Everything.butForImage(plain));
        largestOn();
        for (int[] right : new int[][] {
            with(0, 3, 231), with(0, 0, 255), with(2, 9), with(TILES_AT, 30, 30, 30, 30), with(TILES_AT, 0, 0, 0, 0),
            with(PERSONS_AT, 2, 0), with(PERSONS_AT + 2, 3, 2), with(PERSONS_AT, 2, 0, 3, 2),
            with(PURSES_AT, 128, 0, 0, 0, 127, 255, 255, 255), with(PURSES_AT, 255, 255, 255, 255, 255, 255, 255, 255)}) {
            TileHeel y = Check.told(Lives.TOWN);
            ledger.due("an image", on(y, right), true);
            bytesAre("what it tells", y, right);
        }

        ledger.sentence("false when it is none (NIGHT 999, SNOW 9, tiles 30 at most; each PERSON at one of his two LOTS, and going "
            + "to the other), all staying.");
        for (String bytes : noImages()) {
            ledger.refused("on of " + numbers(bytes), Lives::lived, z -> {
                Check.feed(z, bytes);
                return z.on() ? 1 : 0;
            }, 0);
        }
        for (int[] one : new int[][] {{12, 31}, {23, 5}, {23, 4}, {24, 9}, {24, 4}, {24, 10}, {13, 5}, {14, 4}}) {
            int[] bytes = LARGEST.clone();
            bytes[one[0]] = one[1];
            ledger.due("of the largest, byte " + one[0] + " " + one[1], on(Check.told(Lives.largest()), bytes), false);
        }
        TileHeel none = new TileHeel();
        ledger.due("an empty tape of no town", none.on(), false);
        Check.feed(none, Check.image(FIRST));
        ledger.due("another town's", none.on(), false);
        ledger.due("its tape went", none.end(1), false);
    }

    private void asTold(TileHeel x) {
        int[] counts = {2, 4, 3, 2, 1, 5, 50, 999, 9, 35, 1, 0, 0};
        for (int what = 0; what < counts.length; what++) {
            ledger.due("has(" + what + ")", x.has(what), counts[what]);
        }
        int[] tiles = {0, 30, 1, 4};
        for (int lot = 0; lot < 4; lot++) {
            ledger.due("tiles " + lot, x.lot(lot, 2), tiles[lot]);
        }
        ledger.due("p at", x.person(0, 4), 2);
        ledger.due("p to", x.person(0, 5), 0);
        ledger.due("r at", x.person(1, 4), 3);
        ledger.due("r to", x.person(1, 5), 2);
        ledger.due("the first purse", x.purse(0), MAX);
        ledger.due("the second purse", x.purse(1), -2);
        ledger.due("nothing is led", x.led(0, 0), NONE);
        ledger.due("nothing is led to p", x.person(0, 6), 0);
        ledger.due("nothing can be undone", x.undo(), false);
    }

    /** AN IMAGE of Lives.largest(), but for its last byte. */
    private static final int[] LARGEST = {1, 2, 3, 30, 29, 28, 27, 26, 25, 24, 23, 22, 21, 4, 0, 5, 1, 6, 2, 7, 3, 8, 4, 9, 5,
        0, 0, 0, 1, 0, 0, 1, 0, 0, 1, 0, 0, 1, 0, 0, 0, 255, 255, 255, 255};

    private void largestOn() {
        int[] bytes = LARGEST;
        TileHeel x = Check.told(Lives.largest());
        ledger.due("the largest", on(x, bytes), true);
        bytesAre("the largest", x, bytes);
        for (int person = 0; person < 6; person++) {
            ledger.due("at, " + person, x.person(person, 4), person + 4);
            ledger.due("to, " + person, x.person(person, 5), person);
        }
        int[] purses = {1, 256, 65536, 16777216, -1};
        for (int owner = 0; owner < 5; owner++) {
            ledger.due("purse " + owner, x.purse(owner), purses[owner]);
        }
    }

    private static String numbers(String bytes) {
        StringBuilder all = new StringBuilder();
        for (char c : bytes.toCharArray()) {
            all.append((int) c).append(' ');
        }
        return all.toString();
    }

    private static List<String> noImages() {
        List<String> all = new ArrayList<>();
        for (int[] none : new int[][] {
            with(0, 3, 232), with(0, 4, 0), with(0, 255, 255), with(2, 10), with(2, 255), with(PERSONS_AT, 0, 0),
            with(PERSONS_AT, 2, 2), with(PERSONS_AT, 1, 2), with(PERSONS_AT, 0, 1), with(PERSONS_AT, 0, 3),
            with(PERSONS_AT, 3, 0), with(PERSONS_AT, 255, 2), with(PERSONS_AT, 0, 255), with(PERSONS_AT + 2, 2, 2),
            with(PERSONS_AT + 2, 3, 3), with(PERSONS_AT + 2, 1, 3), with(PERSONS_AT + 2, 2, 0), with(PERSONS_AT, 2, 3),
            with(PERSONS_AT + 2, 4, 2)}) {
            all.add(Check.image(none));
        }
        for (int lot = 0; lot < 4; lot++) {
            all.add(Check.image(with(TILES_AT + lot, 31)));
            all.add(Check.image(with(TILES_AT + lot, 255)));
        }
        String right = Check.image(FIRST);
        int last = right.length() - 1;
        all.add("");
        all.add(right.substring(0, last));
        all.add(right.substring(1));
        all.add(right + "\0");
        all.add(right + right.charAt(last));
        all.add(right + right);
        for (int more : new int[] {1, 2, 128, 255}) {
            all.add(right.substring(0, last) + (char) ((right.charAt(last) + more) & 255));
        }
        for (int k = 0; k < last; k++) {
            all.add(right.substring(0, k) + (char) (right.charAt(k) ^ 1) + right.substring(k + 1));
        }
        // as long as one of a person, a lot or an owner more or less, with a last byte of its own
        for (int length : new int[] {3, 14, 15, 17, 18, 20, 21, 23}) {
            all.add(Check.image(Arrays.copyOf(FIRST, length)));
        }
        return all;
    }
}
