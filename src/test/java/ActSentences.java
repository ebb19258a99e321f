/** Terms II: going, ACTS, draws, FIRE; promises 16 to 23: go, night, patch, snow, fire, undo, seed, led. */
final class ActSentences {
    private static final int NONE = TileHeel.NONE;
    private static final int MAX = Integer.MAX_VALUE;
    private static final int MIN = Integer.MIN_VALUE;
    private static final String AB = Lives.gaps(0, "ab");

    private final Ledger ledger;

    private ActSentences(Ledger ledger) {
        this.ledger = ledger;
    }

    static void hold(Ledger ledger) {
        ActSentences all = new ActSentences(ledger);
        ledger.section("Terms");
        all.goingTerms();
        all.breakingTerms();
        all.nightTerms();
        all.otherActTerms();
        all.undoAndDrawTerms();
        all.fireTerms();
        all.go();
        all.night();
        all.patch();
        all.snow();
        all.fire();
        all.undo();
        all.seed();
        all.led();
    }

    private static TileHeel told(TileHeel x, String text) {
        Check.town(x, text);
        return x;
    }

    private void tiles(String when, TileHeel x, int... due) {
        for (int lot = 0; lot < due.length; lot++) {
            ledger.due(when + ": tiles of lot " + lot, x.lot(lot, 2), due[lot]);
        }
    }

    // ---- HE GOES

    private void goingTerms() {
        ledger.sentence("HE GOES his WAY (at once; if there is none, he stays):");
        TileHeel x = Check.told(Lives.lots(9, 9, 9) + AB + Lives.person("p", 1, 0, 0, 0, "a", "b")
            + Lives.person("q", 1, 0, 0, 0, "b", "c"));
        ledger.due("he goes", x.go(0), 0);
        ledger.due("he is there", x.person(0, 4), 1);
        ledger.due("none", x.go(1), NONE);
        x.night();
        ledger.due("he stays", x.person(1, 4), 1);
        ledger.due("and goes on to there", x.person(1, 5), 2);

        ledger.sentence("LOT by LOT he comes to he pays its TOLL (as it was ahead of going) to its OWNER;");
        TileHeel y = Check.told("owner o;owner q;owner r;lot a of r height 0 tiles 9;lot b of q height 0 tiles 2;"
            + "lot c of o height 0 tiles 4;lot d of q height 0 tiles 5;" + Lives.gaps(0, "ab bc cd")
            + Lives.person("p", 26, 0, 0, 0, "a", "d") + "toll q tiles when all;toll o 100+tiles when all;toll r 7 when all;");
        // each breaks one tile, behind its toll: 26 is above 5 times 2, 4, 5, not 9
        ledger.due("coins", y.go(0), 111);
        ledger.due("q takes 2 and 5", y.purse(1), 7);
        ledger.due("o takes 104", y.purse(0), 104);
        ledger.due("r takes nothing where he was", y.purse(2), 0);
        tiles("gone", y, 9, 1, 3, 4);
        ledger.due("back, of the tiles that are left", y.go(0), 103 + 1 + 7);
        ledger.due("r takes 7 at the end", y.purse(2), 7);
        ledger.due("d takes nothing where he was", y.purse(1), 8);
    }

    private void breakingTerms() {
        ledger.sentence("where his weight is above carry times its tiles, one tile BREAKS (it is gone; LED to him: NIGHT, LOT, "
            + "PERSON; the last 60 are told).");
        for (int carry : new int[] {1, 5, 20}) {
            for (int tiles : new int[] {1, 2, 4}) {
                breaksAt(carry, tiles, carry * tiles, 0);
                breaksAt(carry, tiles, carry * tiles + 1, 1);
            }
        }
        breaksAt(1, 30, 99, 1);
        breaksAt(20, 30, 99, 0);
        breaksAt(20, 4, 99, 1);
        breaksAt(20, 5, 99, 0);
        breaksAt(1, 1, 1, 0);
        sixtyTold();

        ledger.sentence("Behind it he is at that LOT, and goes back to the other one next time.");
        TileHeel x = Check.told(Lives.lots(9, 9, 9) + Lives.gaps(0, "ab bc") + Lives.person("p", 1, 0, 0, 0, "c", "a"));
        for (int k = 0; k < 4; k++) {
            ledger.due("at, " + k, x.person(0, 4), k % 2 == 0 ? 2 : 0);
            ledger.due("to, " + k, x.person(0, 5), k % 2 == 0 ? 0 : 2);
            ledger.due("the way's end, " + k, x.way(0, 1), k % 2 == 0 ? 0 : 2);
            x.go(0);
        }
    }

    private void breaksAt(int carry, int tiles, int weight, int due) {
        TileHeel x = Check.told(Lives.lots(30, tiles) + AB + "carry " + carry + ";"
            + Lives.person("p", weight, 0, 0, 0, "a", "b"));
        String call = "weight " + weight + " on " + tiles + " tiles that carry " + carry;
        ledger.due(call + ": goes", x.go(0), 0);
        ledger.due(call + ": tiles", x.lot(1, 2), tiles - due);
        ledger.due(call + ": none where he was", x.lot(0, 2), 30);
        ledger.due(call + ": told", x.has(11), due);
        ledger.due(call + ": lot", x.led(0, 1), due == 1 ? 1 : NONE);
        ledger.due(call + ": person", x.led(0, 2), due == 1 ? 0 : NONE);
        ledger.due(call + ": night", x.led(0, 0), due == 1 ? 0 : NONE);
    }

    /** Three persons break a tile each a night: in 20 nights 60. */
    private static TileHeel brittle() {
        return Check.told(Lives.lots(30, 30, 30, 30, 30, 30) + Lives.gaps(0, "ab cd ef") + "carry 1;"
            + Lives.person("p", 99, 0, 0, 0, "a", "b") + Lives.person("q", 99, 0, 0, 0, "c", "d")
            + Lives.person("r", 99, 0, 0, 0, "e", "f"));
    }

    private void sixtyTold() {
        TileHeel x = brittle();
        for (int k = 0; k < 19; k++) {
            x.night();
        }
        x.go(0);
        x.go(1);
        ledger.due("59", x.has(11), 59);
        x.go(2);
        ledger.due("60", x.has(11), 60);
        ledger.due("the oldest", x.led(0, 0), 0);
        ledger.due("the oldest is p's", x.led(0, 2), 0);
        ledger.due("the latest is r's", x.led(59, 2), 2);
        ledger.due("the latest is of night 19", x.led(59, 0), 19);
        ledger.due("on e", x.led(59, 1), 4);
        x.go(1);
        ledger.due("60 of 61", x.has(11), 60);
        ledger.due("the second is the oldest now", x.led(0, 2), 1);
        ledger.due("its lot", x.led(0, 1), 3);
        ledger.due("the latest is q's", x.led(59, 2), 1);
        ledger.due("the one ahead of it", x.led(58, 2), 2);
        ledger.due("no 61st", x.led(60, 0), NONE);
        x.go(0);
        x.go(2);
        ledger.due("60 of 63", x.has(11), 60);
        ledger.due("the oldest is of night 1", x.led(0, 0), 1);
        ledger.due("the oldest is p's again", x.led(0, 2), 0);
        ledger.due("on a", x.led(0, 1), 0);
        ledger.due("the last of night 18", x.led(53, 0), 18);
        ledger.due("the first of night 19", x.led(54, 0), 19);
    }

    // ---- a NIGHT

    private void nightTerms() {
        ledger.sentence("ACTS: one goes; a NIGHT: all go, by numbers, one behind the other;");
        // b has one tile: the first who comes takes it, the second has no way
        TileHeel x = Check.told(Lives.lots(9, 1, 9) + Lives.gaps(0, "ab bc") + Lives.person("p", 6, 0, 0, 0, "a", "c")
            + Lives.person("q", 6, 0, 0, 0, "c", "a"));
        ledger.due("a go is an act", x.go(0), 0);
        ledger.due("one", x.has(12), 1);
        ledger.due("undone", x.undo(), true);
        ledger.due("the night", x.night(), 1);
        ledger.due("one act", x.has(12), 1);
        ledger.due("p has gone", x.person(0, 4), 2);
        ledger.due("q stays", x.person(1, 4), 2);
        ledger.due("it is led to p", x.led(0, 2), 0);
        TileHeel six = Check.told(TextChecks.persons(6) + Lives.gaps(1, "ab") + "carry 20;");
        six.night();
        ledger.due("six of six", six.lot(1, 5), 6);

        ledger.sentence("then a DRAW of 100, below rain: it RAINS:");
        for (int draw : new int[] {0, 1, 18, 50, 98, 99}) {
            rainsBelow(draw, draw, 0);
            rainsBelow(draw, draw + 1, 1);
        }
        TileHeel gone = Check.told(Lives.lots(3, 3) + AB + Lives.person("p", 99, 0, 0, 0, "a", "b") + "rain 100;");
        gone.night();
        ledger.due("behind all that go: on two tiles of b", gone.purse(0), -1);

        ledger.sentence("each LOT with fewer tiles than 3 LEAKS (its OWNER pays 1);");
        TileHeel y = Check.told("owner o;owner q;owner r;lot a of o height 0 tiles 0;lot b of o height 0 tiles 2;"
            + "lot c of q height 0 tiles 1;lot d of r height 0 tiles 3;lot e of o height 0 tiles 30;rain 100;");
        y.night();
        ledger.due("o pays for none and 2", y.purse(0), -2);
        ledger.due("q pays for 1", y.purse(1), -1);
        ledger.due("r pays nothing for 3", y.purse(2), 0);
        tiles("as many tiles", y, 0, 2, 1, 3, 30);

        ledger.sentence("NIGHT is one more (999 at most);");
        TileHeel late = told(new TileHeel(), "");
        Check.feed(late, Check.image(3, 229, 0));
        ledger.due("night 997", late.on(), true);
        for (int night = 998; night <= 999; night++) {
            ledger.due("a night", late.night(), 0);
            ledger.due("is one more", late.has(7), night);
        }
        ledger.due("not 1000", late.night(), NONE);
        ledger.due("still 999", late.has(7), 999);
    }

    private void rainsBelow(int draw, int rain, int due) {
        TileHeel x = Check.told(Lives.lots(0) + "rain " + rain + ";");
        x.seed(Lives.seedOf(draw));
        x.night();
        ledger.due("a draw of " + draw + " with rain " + rain, x.purse(0), -due);
    }

    // ---- other ACTS

    private void otherActTerms() {
        ledger.sentence("a tile is taken from a LOT (none with a stork) to another one (30 at most);");
        TileHeel x = Check.told(Lives.lots(2, 29, 5, 30) + "stork c;");
        ledger.due("to 30", x.patch(0, 1), true);
        ledger.due("to 31", x.patch(0, 1), false);
        tiles("one was taken", x, 1, 30, 5, 30);
        ledger.due("from a stork's", x.patch(2, 0), false);
        ledger.due("to a stork's", x.patch(0, 2), true);
        ledger.due("from none", x.patch(0, 2), false);
        ledger.due("from 30 to a hole", x.patch(3, 0), true);
        ledger.due("to itself", x.patch(0, 0), false);
        tiles("at last", x, 1, 30, 6, 29);

        ledger.sentence("SNOW; a FIRE.");
        TileHeel y = Check.told(Lives.lots(2, 2));
        y.snow(3);
        ledger.due("snow is an act", y.has(12), 1);
        y.snow(3);
        ledger.due("as much snow is one, too", y.has(12), 2);
        y.fire(0, 0);
        ledger.due("a fire is one", y.has(12), 3);

        ledger.sentence("PURSES of OWNERS are 0 at first, may be below 0.");
        TileHeel z = Check.told("owner o;owner q;lot a of o height 0 tiles 0;rain 100;");
        ledger.due("o at first", z.purse(0), 0);
        ledger.due("q at first", z.purse(1), 0);
        z.night();
        ledger.due("below 0", z.purse(0), -1);
        z.night();
        ledger.due("further", z.purse(0), -2);
        Check.town(z, Lives.lots(9));
        ledger.due("0 in a new town", z.purse(0), 0);
    }

    private void undoAndDrawTerms() {
        ledger.sentence("The last 20 can be undone.");
        TileHeel x = new TileHeel();
        for (int act = 1; act <= 21; act++) {
            x.snow(act % 10);
            ledger.due("acts behind " + act, x.has(12), Math.min(act, 20));
        }
        for (int act = 20; act >= 1; act--) {
            ledger.due("undone to " + act, x.undo(), true);
            ledger.due("snow of act " + act, x.has(8), act % 10);
            ledger.due("acts left", x.has(12), act - 1);
        }
        ledger.due("not the first of 21", x.undo(), false);
        ledger.due("its snow", x.has(8), 1);

        ledger.sentence("A DRAW of m: x (the seed) becomes (1103515245 x + 12345) mod 2 to the 31; floor(x / 64) mod m.");
        for (int seed : new int[] {0, 1, 2, 63, 64, 12345, 1103515245, MAX - 1, MAX}) {
            TileHeel y = Check.told(Lives.lots(0) + "rain 50;");
            y.seed(seed);
            long due = seed;
            int purse = 0;
            for (int night = 1; night <= 40; night++) {
                purse -= Lives.draw(due) < 50 ? 1 : 0;
                due = Lives.next(due);
                y.night();
                ledger.due("seed " + seed + ", night " + night, y.purse(0), purse);
            }
        }
        // worked out by hand from 1: 1103527590 gives 18, 377401575 gives 99, 662824084 gives 26
        for (int[] one : new int[][] {{1, 18}, {2, 99}, {3, 26}}) {
            for (int rain = one[1]; rain <= one[1] + 1; rain++) {
                TileHeel z = Check.told(Lives.lots(0) + "rain 0;");
                for (int k = 1; k < one[0]; k++) {
                    z.night();
                }
                Check.town(z, Lives.lots(0) + "rain " + rain + ";");
                z.night();
                ledger.due("draw " + one[0] + " from 1 with rain " + rain, z.purse(0), one[1] - rain);
            }
        }
    }

    private void fireTerms() {
        ledger.sentence("A FIRE on a LOT, n minutes: minute by minute it comes to all LOTS that have a GAP of at most 1 to a "
            + "LOT it is on, if these are not HOLES (it can begin on no HOLE);");
        String row = Lives.lots(1, 2, 4, 8, 16) + Lives.gaps(0, "ab") + Lives.gaps(1, "bc") + Lives.gaps(2, "cd")
            + Lives.gaps(1, "de");
        int[] gone = {1, 3, 7, 7, 7};
        for (int n = 0; n < gone.length; n++) {
            ledger.due("gap 0, 1, not 2: " + n, Check.told(row).fire(0, n), gone[n]);
        }
        ledger.due("both ways", Check.told(row).fire(1, 1), 7);
        ledger.due("from the other side", Check.told(row).fire(3, 20), 24);
        TileHeel snowy = Check.told(row);
        snowy.snow(9);
        ledger.due("snow makes no gap less", snowy.fire(2, 20), 7);
        String ten = Lives.lots(1, 1, 1, 1, 1, 1, 1, 1, 1, 1) + Lives.gaps(1, "ab bc cd de ef fg gh hi ij");
        for (int n = 0; n <= 20; n++) {
            TileHeel burnt = Check.told(ten);
            ledger.due("of ten in a row: " + n, burnt.fire(0, n), Math.min(n + 1, 10));
            ledger.due("left of ten: " + n, burnt.has(9), Math.max(9 - n, 0));
        }
        TileHeel holes = Check.told(Lives.lots(1, 0, 4, 8) + Lives.gaps(0, "ab bc cd da"));
        ledger.due("not over a hole", holes.fire(0, 1), 9);
        ledger.due("on no hole", holes.fire(1, 5), NONE);
        ledger.due("on none that has burnt", holes.fire(0, 5), NONE);
        ledger.due("on what is left", holes.fire(2, 5), 4);

        ledger.sentence("then all tiles of LOTS it is on are gone (LED to nobody).");
        TileHeel x = Check.told(Lives.lots(30, 30, 30) + AB + "stork a;" + Lives.person("p", 99, 0, 0, 0, "a", "b"));
        ledger.due("sixty", x.fire(0, 1), 60);
        tiles("a stork's, too", x, 0, 0, 30);
        ledger.due("not led", x.has(11), 0);
        ledger.due("none is told", x.led(0, 0), NONE);
        ledger.due("not to him", x.person(0, 6), 0);
    }

    // ---- promises 16 to 19

    private void go() {
        ledger.section("Promise 16: go");
        ledger.sentence("HE GOES: COINS;");
        TileHeel x = new TileHeel();
        Check.town(x, Lives.TOWN);
        ledger.due("coins", x.go(0), 2);
        ledger.due("his way back", x.go(0), 1);
        ledger.due("0 coins are coins", Check.told(Lives.lots(1, 1) + AB + Lives.person("p", 1, 0, 0, 0, "a", "b")).go(0), 0);
        ledger.sentence("NONE, doing nothing, when he has no WAY, or there is none such.");
        ledger.refused("no way", Lives::lived, z -> z.go(1), NONE);
        for (int person : new int[] {-1, 2, 6, 32, MAX, MIN}) {
            ledger.refused("person " + person, Lives::lived, z -> z.go(person), NONE);
        }
    }

    /** Told, in NIGHT 996, and three nights more. */
    private static void lastNight(TileHeel x, int seed) {
        Check.town(x, Lives.TOWN);
        x.seed(seed);
        Check.feed(x, Check.image(3, 228, 0, 3, 2, 30, 0, 0, 2, 2, 3, 0, 0, 0, 0, 0, 0, 0, 0));
        x.on();
        for (int k = 0; k < 3; k++) {
            x.night();
        }
    }

    private void night() {
        ledger.section("Promise 17: night");
        ledger.sentence("A NIGHT: how many tiles BREAK;");
        TileHeel x = brittle();
        ledger.due("three", x.night(), 3);
        ledger.due("nobody there", new TileHeel().night(), 0);
        ledger.due("none", Check.told(Lives.lots(1, 1) + AB + Lives.person("p", 1, 0, 0, 0, "a", "b")).night(), 0);
        TileHeel long1 = Check.told(Lives.lots(9, 1, 1, 2) + Lives.gaps(0, "ab bc cd") + Lives.person("p", 11, 0, 0, 0, "a", "d"));
        ledger.due("all that one breaks", long1.night(), 3);
        ledger.sentence("NONE, doing nothing, in NIGHT 999.");
        for (int seed : new int[] {1, 2, 5, 77}) {
            TileHeel last = new TileHeel();
            lastNight(last, seed);
            ledger.due("it is night 999", last.has(7), 999);
            ledger.refused("night 999, seed " + seed, z -> lastNight(z, seed), TileHeel::night, NONE);
        }
    }

    private void patch() {
        ledger.section("Promise 18: patch");
        ledger.sentence("A tile is taken from a LOT to another one: true;");
        TileHeel x = Check.told(Lives.lots(2, 0, 29));
        ledger.due("to a hole", x.patch(0, 1), true);
        ledger.due("the last one", x.patch(0, 2), true);
        tiles("taken", x, 0, 1, 30);
        ledger.due("acts", x.has(12), 2);
        ledger.sentence("false, doing nothing, when it can't be.");
        int[][] cannot = {
            {0, 0}, {2, 2}, {1, 0}, {3, 0}, {-1, 0}, {0, -1}, {4, 0}, {0, 4}, {32, 0}, {0, 32}, {MAX, 0}, {0, MIN}, {-1, -1}};
        for (int[] one : cannot) {
            ledger.refused("patch " + one[0] + " to " + one[1], Lives::lived, z -> z.patch(one[0], one[1]) ? 1 : 0, 0);
        }
        ledger.refused("from a stork's", z -> Check.town(z, Lives.TOWN), z -> z.patch(1, 0) ? 1 : 0, 0);
        ledger.refused("to 31 tiles", z -> Check.town(z, Lives.TOWN), z -> z.patch(0, 2) ? 1 : 0, 0);
        ledger.refused("no town", z -> z.snow(1), z -> z.patch(0, 1) ? 1 : 0, 0);
    }

    private void snow() {
        ledger.section("Promise 19: snow");
        ledger.sentence("SNOW (0 .. 9): what it was;");
        TileHeel x = Check.told(Lives.TOWN);
        int was = 0;
        for (int n : new int[] {9, 0, 1, 8, 9, 9, 0}) {
            ledger.due("snow " + n, x.snow(n), was);
            ledger.due("it is " + n, x.has(8), n);
            was = n;
        }
        ledger.sentence("NONE, doing nothing, when it can't be.");
        for (int n : new int[] {-1, 10, 11, MAX, MIN}) {
            ledger.refused("snow " + n, Lives::lived, z -> z.snow(n), NONE);
        }
    }

    // ---- promises 20 to 23

    private void fire() {
        ledger.section("Promise 20: fire");
        ledger.sentence("A FIRE on a LOT of n minutes (0 .. 20): how many tiles are gone;");
        String row = Lives.lots(1, 2, 4) + Lives.gaps(1, "ab bc");
        ledger.due("0 minutes", Check.told(row).fire(0, 0), 1);
        ledger.due("1 minute", Check.told(row).fire(0, 1), 3);
        ledger.due("2 minutes", Check.told(row).fire(0, 2), 7);
        ledger.due("20 minutes", Check.told(row).fire(2, 20), 7);
        ledger.sentence("NONE, doing nothing, when it can't be.");
        for (int n : new int[] {-1, 21, 22, MAX, MIN}) {
            ledger.refused("n " + n, Lives::lived, z -> z.fire(0, n), NONE);
        }
        for (int lot : new int[] {-1, 4, 10, 32, MAX, MIN}) {
            ledger.refused("lot " + lot, Lives::lived, z -> z.fire(lot, 1), NONE);
        }
        ledger.refused("a hole", Lives::lived, z -> z.fire(3, 0), NONE);
        ledger.refused("a hole that was broken", Lives::lived, z -> z.fire(1, 20), NONE);
    }

    private void undo() {
        ledger.section("Promise 21: undo");
        ledger.sentence("The latest ACT is undone (the seed stays): true;");
        for (int act = 0; act < 5; act++) {
            undone(act);
        }
        // the night that is undone has drawn: the next one draws on
        for (int seed : new int[] {1, 2, 5, 77}) {
            TileHeel x = Check.told(Lives.lots(0) + "rain " + Lives.draw(Lives.next(seed)) + ";");
            TileHeel y = Check.told(Lives.lots(0) + "rain " + (Lives.draw(Lives.next(seed)) + 1) + ";");
            for (TileHeel one : new TileHeel[] {x, y}) {
                one.seed(seed);
                one.night();
                ledger.due("undone", one.undo(), true);
                one.night();
                ledger.due("the second draw from " + seed, one.purse(0), one == x ? 0 : -1);
            }
        }
        TileHeel led = brittle();
        for (int k = 0; k < 20; k++) {
            led.night();
        }
        led.go(1);
        ledger.due("p's is told no more", led.led(0, 2), 1);
        ledger.due("q's is the latest", led.led(59, 2), 1);
        ledger.due("undone", led.undo(), true);
        ledger.due("60", led.has(11), 60);
        int[][] ends = {{0, 1, 0}, {19, 4, 2}};
        for (int what = 0; what < 3; what++) {
            ledger.due("p's is told again: " + what, led.led(0, what), ends[0][what]);
            ledger.due("r's is the latest: " + what, led.led(59, what), ends[1][what]);
        }

        undoneOfTheLargest();

        ledger.sentence("false when none can be.");
        ledger.refused("a new object", z -> z.seed(5), z -> z.undo() ? 1 : 0, 0);
        ledger.refused("a new town", z -> {
            Lives.lived(z);
            Check.town(z, Lives.TOWN);
        }, z -> z.undo() ? 1 : 0, 0);
        ledger.refused("all undone", z -> {
            Lives.lived(z);
            while (z.undo()) {
                z.leaks();
            }
        }, z -> z.undo() ? 1 : 0, 0);
    }

    /** All lots, persons and owners are as they were, the last of them, too. */
    private void undoneOfTheLargest() {
        TileHeel x = Check.told(Lives.largest());
        int length = x.image();
        int[] before = new int[length];
        for (int k = 0; k < length; k++) {
            before[k] = x.octet(k);
        }
        ledger.due("a night", x.night(), 0);
        ledger.due("a patch", x.patch(9, 8), true);
        ledger.due("snow", x.snow(9), 0);
        ledger.due("a fire", x.fire(9, 5), 65);
        ledger.due("all are holes", x.has(10), 10);
        ledger.due("the last has gone", x.person(5, 4), 9);
        ledger.due("the last owner is paid", x.purse(4) > 999, true);
        for (int k = 0; k < 4; k++) {
            ledger.due("undone", x.undo(), true);
        }
        ledger.due("as long", x.image(), length);
        for (int k = 0; k < length; k++) {
            ledger.due("byte " + k + " is as it was", x.octet(k), before[k]);
        }
    }

    private static void act(TileHeel x, int which) {
        switch (which) {
            case 0: x.go(0); break;
            case 1: x.night(); break;
            case 2: x.patch(2, 0); break;
            case 3: x.snow(7); break;
            default: x.fire(2, 20);
        }
    }

    /** Behind an act and its undoing all is as it was; but for the seed, which a night changes. */
    private void undone(int which) {
        TileHeel acted = Check.told(Lives.TOWN);
        TileHeel other = Check.told(Lives.TOWN);
        acted.go(0);
        other.go(0);
        act(acted, which);
        ledger.due("acts behind act " + which, acted.has(12), 2);
        ledger.due("act " + which + " undone", acted.undo(), true);
        acted.seed(5);
        other.seed(5);
        ledger.same("act " + which + " undone", Everything.of(acted), Everything.of(other));
    }

    private void seed() {
        ledger.section("Promise 22: seed");
        ledger.sentence("The seed: true;");
        for (int seed : new int[] {0, 1, MAX}) {
            for (int more = 0; more <= 1; more++) {
                TileHeel x = Check.told(Lives.lots(0) + "rain " + (Lives.draw(seed) + more) + ";");
                ledger.due("seed " + seed, x.seed(seed), true);
                ledger.due("no act", x.has(12), 0);
                x.night();
                ledger.due("the draw of " + seed, x.purse(0), -more);
            }
        }
        ledger.sentence("false when it is below 0.");
        for (int seed : new int[] {-1, -77, MIN}) {
            TileHeel x = new TileHeel();
            ledger.due("seed " + seed, x.seed(seed), false);
            ledger.refused("seed " + seed, Lives::lived, z -> z.seed(seed) ? 1 : 0, 0);
        }
        ledger.sentence("(It is 1 at first.)");
        TileHeel one = new TileHeel();
        Check.town(one, Lives.TOWN);
        one.seed(1);
        ledger.same("seed 1", Everything.of(one), Everything.of(Check.told(Lives.TOWN)));
        for (int more = 0; more <= 1; more++) {
            TileHeel x = Check.told(Lives.lots(0) + "rain " + (18 + more) + ";");
            x.night();
            ledger.due("a draw of 18 with rain " + (18 + more), x.purse(0), -more);
        }
    }

    private void led() {
        ledger.section("Promise 23: led");
        ledger.sentence("Of the k-th tile that is told as LED, from the oldest on: 0 NIGHT, 1 LOT, 2 PERSON.");
        TileHeel x = Check.told(Lives.lots(9, 1, 2, 3) + Lives.gaps(0, "ab bc cd da") + Lives.person("p", 46, 0, 0, 0, "a", "c")
            + Lives.person("q", 16, 0, 0, 0, "c", "a") + "toll o 9 when height=0 and tiles=3;");
        x.night();
        x.snow(0);
        x.go(1);
        // p goes by b, as d is dear, and breaks b's last tile; q has d alone (16 is above 15); back he breaks one of
        // d's two and c's last
        int[][] due = {{0, 1, 0}, {0, 2, 0}, {0, 3, 1}, {1, 3, 1}, {1, 2, 1}};
        ledger.due("told", x.has(11), due.length);
        for (int k = 0; k < due.length; k++) {
            for (int what = 0; what < 3; what++) {
                ledger.due("led(" + k + "," + what + ")", x.led(k, what), due[k][what]);
            }
        }
        ledger.sentence("NONE when there is none such, or for others.");
        for (int k : new int[] {-1, 5, 6, 59, 60, MAX, MIN}) {
            for (int what = 0; what < 3; what++) {
                ledger.due("led(" + k + "," + what + ")", x.led(k, what), NONE);
            }
        }
        for (int what : new int[] {-1, 3, 4, MAX, MIN}) {
            ledger.due("what " + what, x.led(0, what), NONE);
            ledger.due("what " + what, x.led(4, what), NONE);
        }
        ledger.asks("led", (z, n) -> {
            z.led(n, 0);
            z.led(0, n);
        });
    }
}
