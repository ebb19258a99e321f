/** What it is, the constants, promises 1 to 5: a new object, feed, end, town, fault. */
final class TapeSentences {
    private static final int NONE = TileHeel.NONE;
    private static final int BLANKS = 0x20202020;
    private static final int SHORT_OF_FULL = 79;

    private final Ledger ledger;

    private TapeSentences(Ledger ledger) {
        this.ledger = ledger;
    }

    static void hold(Ledger ledger) {
        TapeSentences all = new TapeSentences(ledger);
        all.whatItIs();
        all.constants();
        all.newObject();
        all.feed();
        all.end();
        all.town();
        all.fault();
    }

    private static int blanks(TileHeel x) {
        return x.feed(BLANKS, BLANKS, BLANKS, BLANKS, BLANKS);
    }

    private static void blanks(TileHeel x, int times) {
        for (int k = 0; k < times; k++) {
            blanks(x);
        }
    }

    private void whatItIs() {
        ledger.section("What it is");
        ledger.words("Roofs in common: a town of lots of tiles with owners, heights, gaps, inns, storks, people by weight, "
            + "leap, climb and heel, told as a text with tolls and bars in a small language; ways by night over the roofs, "
            + "the cheapest, with whose leave; tiles that break under whom, each led to a heel; snow, rain, fire; tiles "
            + "taken to patch; the fewest tiles to be taken so that one can't pass, to be laid so that he can; who can have "
            + "broken it by his mark; inns that are full, what a gap is worth; nights by a seed, acts undone, images.");
        ledger.sentence("An object is used for at most 512 calls after it has been made; what later calls answer is free.");
        TileHeel x = new TileHeel();
        for (int call = 1; call <= 510; call++) {
            x.night();
        }
        ledger.due("the 511th call", x.night(), 0);
        ledger.due("the 512th call", x.has(7), 511);
        TileHeel y = new TileHeel();
        for (int call = 1; call <= 511; call++) {
            y.snow(call % 10);
        }
        ledger.due("an act as the 512th call", y.undo(), true);
    }

    private void constants() {
        ledger.section("Terms");
        ledger.words("The constants:");
        ledger.sentence("`NONE = -1`: There is none; it is refused.");
        ledger.due("NONE", TileHeel.NONE, -1);
        ledger.sentence("`NOTHING = -1000000000`: Told where a number below 0 may be one.");
        ledger.due("NOTHING", TileHeel.NOTHING, -1000000000);
        ledger.words("Ahead of the calls `toll`, `step`, `way`, `leave` the interface says: ---- ways.");
        ledger.words("Ahead of the calls `go`, `night`, `patch`, `snow`, `fire`, `undo`, `seed`, `led` the interface says: "
            + "---- acts.");
        ledger.words("Ahead of the calls `burns`, `stopped`, `opened`, `broke`, `worth`, `reach`, `leaks` the interface "
            + "says: ---- what would be.");
        ledger.words("Ahead of the calls `image`, `octet`, `on` the interface says: ---- images.");
    }

    private void newObject() {
        ledger.section("Promise 1: A new object");
        ledger.sentence("No LOTS, nobody.");
        TileHeel x = new TileHeel();
        for (int what = 0; what <= 12; what++) {
            ledger.due("has(" + what + ")", x.has(what), what == 5 ? 5 : 0);
        }
        ledger.due("lot", x.lot(0, 0), NONE);
        ledger.due("person", x.person(0, 0), NONE);
        ledger.due("purse", x.purse(0), TileHeel.NOTHING);
        ledger.due("letter", x.letter(0, 0, 0), NONE);
        ledger.due("gap", x.gap(0, 0), NONE);
        ledger.due("toll", x.toll(0, 0), -2);
        ledger.due("step", x.step(0, 0, 0), NONE);
        ledger.due("way", x.way(0, NONE), NONE);
        ledger.due("leave", x.leave(0, 0), NONE);
        ledger.due("burns", x.burns(0, 0), NONE);
        ledger.due("stopped", x.stopped(0, 0), NONE);
        ledger.due("opened", x.opened(0, 0), NONE);
        ledger.due("broke", x.broke(0, 0, NONE), NONE);
        ledger.due("worth", x.worth(0, 0), TileHeel.NOTHING);
        ledger.due("reach", x.reach(0), NONE);
        ledger.due("leaks", x.leaks(), 0);
        ledger.due("led", x.led(0, 0), NONE);
        ledger.due("octet", x.octet(0), NONE);
        ledger.due("a night without anybody", x.night(), 0);
        ledger.due("undone", x.undo(), true);
        ledger.due("an empty tape", x.end(1), false);
        // a town without anything is what a new object holds
        ledger.same("town of an empty tape", Everything.of(Check.told("")), Everything.of(new TileHeel()));
    }

    private void feed() {
        ledger.section("Promise 2: feed");
        ledger.sentence("Twenty bytes come behind those on the tape, of each number the highest first: how many there are;");
        TileHeel x = new TileHeel();
        ledger.due("the first", x.feed(0x6f776e65, 0x72206162, 0x63646566, 0x3b726169, 0x6e20373b), 20);
        ledger.due("the second", x.feed(0x6f776e65, 0x7220673b, 0x63617272, 0x7920380a, 0x0a0a0a3b), 40);
        ledger.due("owner abcdef;rain 7;owner g;carry 8;", x.town(), 4);
        ledger.due("a", x.letter(0, 0, 0), 1);
        ledger.due("f", x.letter(0, 0, 5), 6);
        ledger.due("g", x.letter(0, 1, 0), 7);
        ledger.due("rain", x.has(6), 7);
        ledger.due("carry", x.has(5), 8);
        for (int place = 0; place < 20; place++) {
            int[] five = {BLANKS, BLANKS, BLANKS, BLANKS, BLANKS};
            // a byte of 255 where all others are blanks: there the fault is
            five[place / 4] |= 0xff << 8 * (3 - place % 4);
            x.feed(five[0], five[1], five[2], five[3], five[4]);
            x.town();
            ledger.due("byte " + place, x.fault(1), place);
        }
        TileHeel y = new TileHeel();
        for (int k = 1; k <= 80; k++) {
            ledger.due("blanks " + k, blanks(y), 20 * k);
        }

        ledger.sentence("NONE, doing nothing, if there would be more than 1600.");
        TileHeel full = new TileHeel();
        blanks(full, SHORT_OF_FULL);
        ledger.due("to 1600", blanks(full), 1600);
        ledger.due("to 1620", blanks(full), NONE);
        ledger.due("cut to 1581", full.end(1581), true);
        ledger.due("to 1601", blanks(full), NONE);
        ledger.due("not 1582", full.end(1582), false);
        ledger.due("cut to 1580", full.end(1580), true);
        ledger.due("to 1600 again", blanks(full), 1600);
        for (int length : new int[] {1600, 1581}) {
            ledger.refused("feed behind " + length, z -> {
                Check.town(z, Lives.TOWN);
                z.seed(77);
                z.go(0);
                Check.feed(z, "owner z;");
                // 28, 48 .. 1588
                blanks(z, SHORT_OF_FULL);
                z.end(1580);
                blanks(z);
                z.end(length);
            }, z -> z.feed(-1, -1, -1, -1, -1), NONE);
        }
    }

    private void end() {
        ledger.section("Promise 3: end");
        ledger.sentence("The tape has its first n bytes alone: true;");
        TileHeel x = new TileHeel();
        ledger.due("0 of nothing", x.end(0), true);
        x.feed(0x6f776e65, 0x7220613b, 0x6f776e65, 0x7220623b, BLANKS);
        ledger.due("20 of 20", x.end(20), true);
        ledger.due("19 of 20", x.end(19), true);
        ledger.due("8 of 19", x.end(8), true);
        ledger.due("8 of 8", x.end(8), true);
        ledger.due("behind them", blanks(x), 28);
        ledger.due("one owner", x.town(), 1);
        x.feed(0x6f776e65, 0x7220613b, BLANKS, BLANKS, BLANKS);
        ledger.due("0 of 20", x.end(0), true);
        ledger.due("nothing is left", x.town(), 0);
        blanks(x, 80);
        ledger.due("1600 of 1600", x.end(1600), true);

        ledger.sentence("false, doing nothing, if it has not so many, or n is below 0.");
        for (int n : new int[] {9, 10, 20, 1600, 1601, -1, -8, Integer.MAX_VALUE, Integer.MIN_VALUE}) {
            ledger.refused("end(" + n + ") of 8", z -> {
                Lives.lived(z);
                Check.feed(z, "owner z;");
            }, z -> z.end(n) ? 1 : 0, 0);
        }
        for (int n : new int[] {1, -1}) {
            ledger.refused("end(" + n + ") of nothing", Lives::lived, z -> z.end(n) ? 1 : 0, 0);
        }
        TileHeel full = new TileHeel();
        blanks(full, 80);
        ledger.due("1601 of 1600", full.end(1601), false);
        ledger.due("there are 1600", full.end(1600), true);
    }

    private void town() {
        ledger.section("Promise 4: town");
        ledger.sentence("The tape (it goes) is THE TOWN: how many STATEMENTS;");
        TileHeel x = new TileHeel();
        ledger.due("none", x.town(), 0);
        Check.feed(x, "owner a;owner b;rain 5;");
        ledger.due("three", x.town(), 3);
        ledger.due("the tape went", blanks(x), 20);
        ledger.due("blanks alone", x.town(), 0);
        ledger.due("no owners now", x.has(0), 0);
        ledger.due("eighty", Check.town(x, "rain 5;".repeat(80)), 80);
        ledger.due("a wrong one", Check.town(x, "owner a;x"), NONE);
        ledger.due("its tape went, too", blanks(x), 20);

        ledger.sentence("NONE with a FAULT (all stays).");
        for (String text : new String[] {
            "x", "owner o;lot a of o height 9 tiles 9;carry 9;rain 9;owner", "rain 101;", "owner o;owner o;",
            "owner o;toll o 9 when [[[[[[[all]]]]]]];", "owner o;owner p;owner q;owner r;owner s;owner t;",
            "rain 5;".repeat(80) + "carry 9;"}) {
            staysBehindFault(text);
        }

        ledger.sentence("Without one it is NIGHT 0, SNOW 0, nothing is LED or can be undone;");
        TileHeel y = new TileHeel();
        Lives.lived(y);
        ledger.due("a night ahead", y.has(7), 1);
        ledger.due("snow ahead", y.has(8), 2);
        ledger.due("led ahead", y.has(11), 2);
        ledger.due("acts ahead", y.has(12), 4);
        Check.town(y, Lives.TOWN);
        for (int what : new int[] {7, 8, 11, 12}) {
            ledger.due("has(" + what + ")", y.has(what), 0);
        }
        ledger.due("led", y.led(0, 0), NONE);
        ledger.due("led to nobody", y.person(0, 6), 0);
        ledger.due("undo", y.undo(), false);
        ledger.due("purses are new", y.purse(1), 0);
        ledger.due("tiles as told", y.lot(1, 2), 2);
        ledger.due("he is where he was told", y.person(0, 4), 0);

        theSeedStays();
    }

    private void staysBehindFault(String text) {
        TileHeel called = new TileHeel();
        TileHeel other = new TileHeel();
        Lives.lived(called);
        Lives.lived(other);
        ledger.due("town of " + text, Check.town(called, text), NONE);
        ledger.same("town of " + text, Everything.butForFault(called), Everything.butForFault(other));
    }

    private void theSeedStays() {
        ledger.sentence("the seed stays.");
        for (int seed : new int[] {1, 2, 77, 123456789}) {
            TileHeel one = new TileHeel();
            Check.town(one, Lives.TOWN);
            one.seed(seed);
            TileHeel two = new TileHeel();
            two.seed(seed);
            Check.town(two, "owner z;");
            Check.town(two, Lives.TOWN);
            ledger.same("seed " + seed + " ahead of two towns", Everything.of(two), Everything.of(one));
        }
        // draws go on from where they were: the first from seed 1 is 18, the second 99
        TileHeel drawn = Check.told("owner o;lot a of o height 0 tiles 0;rain 18;");
        drawn.night();
        ledger.due("a draw of 18", drawn.purse(0), 0);
        Check.town(drawn, "owner o;lot a of o height 0 tiles 0;rain 99;");
        drawn.night();
        ledger.due("a draw of 99", drawn.purse(0), 0);
    }

    private void fault() {
        ledger.section("Promise 5: fault");
        ledger.sentence("Of the latest town(): its FAULT (what 0; 0 without, and ahead of any), its place (1; NONE without).");
        TileHeel x = new TileHeel();
        ledger.due("ahead of any", x.fault(0), 0);
        ledger.due("no place ahead of any", x.fault(1), NONE);
        Check.town(x, "!");
        ledger.due("fault 1", x.fault(0), 1);
        ledger.due("at 0", x.fault(1), 0);
        Check.town(x, "rain 101;");
        ledger.due("fault 2", x.fault(0), 2);
        ledger.due("at 5", x.fault(1), 5);
        Check.town(x, "stork a;");
        ledger.due("fault 3", x.fault(0), 3);
        ledger.due("at 6", x.fault(1), 6);
        Check.town(x, "owner o;bar o when [[[[[[[");
        ledger.due("fault 4", x.fault(0), 4);
        ledger.due("at 25", x.fault(1), 25);
        Check.town(x, "rain 1;".repeat(80) + "?");
        ledger.due("fault 5", x.fault(0), 5);
        ledger.due("at 560", x.fault(1), 560);
        Check.feed(x, "x");
        ledger.due("a tape is no town yet", x.fault(0), 5);
        x.on();
        ledger.due("on() is none", x.fault(1), 560);
        Check.town(x, "rain 1;");
        ledger.due("without", x.fault(0), 0);
        ledger.due("no place without", x.fault(1), NONE);
        Check.town(x, " ".repeat(1595) + "owner");
        ledger.due("at the length of a full tape", x.fault(1), 1600);

        ledger.sentence("NONE for another what.");
        Check.town(x, "x");
        for (int what : new int[] {-1, 2, 3, Integer.MAX_VALUE, Integer.MIN_VALUE}) {
            ledger.due("fault(" + what + ")", x.fault(what), NONE);
        }
        ledger.asks("fault", TileHeel::fault);
    }
}
