/** Terms III: STOPPED, OPENED, BROKE, WORTH; promises 24 to 30: burns, stopped, opened, broke, worth, reach, leaks. */
final class WouldBeSentences {
    private static final int NONE = TileHeel.NONE;
    private static final int NOTHING = TileHeel.NOTHING;
    private static final int MAX = Integer.MAX_VALUE;
    private static final int MIN = Integer.MIN_VALUE;
    private static final int[] NO_PERSONS = {-1, 1, 6, 32, MAX, MIN};

    private final Ledger ledger;

    private WouldBeSentences(Ledger ledger) {
        this.ledger = ledger;
    }

    static void hold(Ledger ledger) {
        WouldBeSentences all = new WouldBeSentences(ledger);
        ledger.section("Terms");
        all.stoppedTerms();
        all.openedTerms();
        all.brokeTerms();
        all.worthTerms();
        all.burns();
        all.stopped();
        all.opened();
        all.broke();
        all.worth();
        all.reach();
        all.leaks();
    }

    /** Lots with these tiles; p goes from a to the last of them and may leap 2 and climb 0. */
    private static String town(String gaps, int... tiles) {
        return Lives.lots(tiles) + Lives.gaps(2, gaps)
            + Lives.person("p", 1, 2, 0, 0, "a", "" + (char) ('a' + tiles.length - 1));
    }

    // ---- STOPPED

    private void stoppedIs(String what, TileHeel x, int tiles, int bits) {
        ledger.due(what + ": tiles", x.stopped(0, 0), tiles);
        ledger.due(what + ": bits", x.stopped(0, 1), bits);
    }

    private void stoppedIs(String what, String text, int tiles, int bits) {
        stoppedIs(what, Check.told(text), tiles, bits);
    }

    private void stoppedTerms() {
        ledger.sentence("III. STOPPED: the fewest tiles that must be taken (all of some LOTS, not where he is, or goes to, not "
            + "those with a stork), so that a PERSON has no WAY; of like ones the least bits of LOTS.");
        stoppedIs("the fewer of two in a row", town("ab bc cd", 1, 7, 5, 1), 5, 4);
        stoppedIs("both sides, all of them", town("ab bd ac cd", 1, 7, 5, 1), 12, 6);
        stoppedIs("not where he goes", town("ab bc", 1, 9, 1), 9, 2);
        stoppedIs("not where he goes, nor where he is", town("ac", 1, 1, 1), NONE, NONE);
        stoppedIs("a straight way beside others", town("ab bc ac", 1, 1, 1), NONE, NONE);
        stoppedIs("not a stork's", town("ab bc cd", 1, 7, 5, 1) + "stork c;", 7, 2);
        stoppedIs("storks on all", town("ab bc cd", 1, 7, 5, 1) + "stork c;stork b;", NONE, NONE);
        stoppedIs("a stork on one of two sides", town("ab bd ac cd", 1, 7, 5, 1) + "stork b;", NONE, NONE);
        stoppedIs("a stork on a side that does not matter", town("ab bc", 1, 4, 1, 7, 9).replace("to e", "to c")
            + "stork d;", 4, 2);
        stoppedIs("least bits of like ones", town("ab bc cd", 1, 5, 5, 1), 5, 2);
        stoppedIs("one more tile: the other", town("ab bc cd", 1, 6, 5, 1), 5, 4);
        stoppedIs("two lots with less bits than one", town("ab ac bd cd de", 1, 2, 3, 5, 1), 5, 6);
        stoppedIs("one lot with a tile less than two", town("ab ac bd cd de", 1, 2, 3, 4, 1), 4, 8);
        stoppedIs("two lots with a tile less than one", town("ab ac bd cd de", 1, 2, 3, 6, 1), 5, 6);
        stoppedIs("he has no way", town("ab", 1, 7, 1), 0, 0);
        stoppedIs("he has none: storks do not matter", town("ab", 1, 7, 1) + "stork b;", 0, 0);
        stoppedIs("a hole is no way, and none is taken of it", town("ab bd ac cd", 1, 0, 5, 1), 5, 4);
        stoppedIs("where he goes is a hole", town("ab bc", 1, 5, 0), 0, 0);
        stoppedIs("a barred side is no way", town("ab bd ac cd", 1, 7, 5, 1) + "bar o when tiles=7;", 5, 4);
        String middle = Lives.lots(5, 9, 9) + Lives.gaps(0, "ba ac") + Lives.person("p", 1, 0, 0, 0, "b", "c");
        stoppedIs("the first lot", middle, 5, 1);
        stoppedIs("a stork on the first lot", middle + "stork a;", NONE, NONE);
        stoppedIs("a stork on the last lot", town("ac cb", 1, 1, 9).replace("to c", "to b") + "stork c;", NONE, NONE);
        String apart = Lives.lots(1, 1, 5, 1, 1) + Lives.gaps(0, "dc ce") + Lives.person("p", 1, 0, 0, 0, "d", "e");
        stoppedIs("more lots than gaps", apart, 5, 4);
        stoppedIs("eight lots", town("ab ac ad ae af ag ah ai bj cj dj ej fj gj hj ij", 1, 30, 30, 30, 30, 30, 30, 30, 30, 1),
            240, 510);
    }

    // ---- OPENED

    private void openedIs(String what, TileHeel x, int holes, int bits) {
        ledger.due(what + ": holes", x.opened(0, 0), holes);
        ledger.due(what + ": bits", x.opened(0, 1), bits);
    }

    private void openedIs(String what, String text, int holes, int bits) {
        openedIs(what, Check.told(text), holes, bits);
    }

    private void openedTerms() {
        ledger.sentence("OPENED: the fewest HOLES that must have a tile (one each, of TOLLS, too), so that he has one; of like "
            + "ones the least bits.");
        openedIs("one", town("ab bc", 1, 0, 1), 1, 2);
        openedIs("his end, too", town("ab bc", 1, 0, 0), 2, 6);
        openedIs("his end alone", town("ab bc", 1, 1, 0), 1, 4);
        openedIs("not where he is", town("ab bc", 0, 0, 1), 1, 2);
        openedIs("one hole for two", town("ab bc ce ad de", 1, 0, 0, 0, 1), 1, 8);
        openedIs("least bits of like ones", town("ac ce ab be ad de", 1, 0, 0, 0, 1), 1, 2);
        openedIs("least bits of pairs", town("ab be ef ac cd df", 1, 0, 0, 0, 0, 1), 2, 12);
        openedIs("a half that is whole", town("ab be ef ac cd df", 1, 1, 0, 0, 0, 1), 1, 16);
        openedIs("eight and his end", town("ab bc cd de ef fg gh hi ij", 1, 0, 0, 0, 0, 0, 0, 0, 0, 0), 9, 1022);
        String middle = Lives.lots(0, 9, 9) + Lives.gaps(0, "ba ac") + Lives.person("p", 1, 0, 0, 0, "b", "c");
        openedIs("the first lot", middle, 1, 1);
        openedIs("the first lot, barred with one", middle + "bar o when tiles=1;", NONE, NONE);
        openedIs("the first lot, barred, no hole", middle.replace("tiles 0", "tiles 7") + "bar o when tiles=7;", NONE, NONE);
        openedIs("the last lot", town("ac cb", 1, 1, 0).replace("to c", "to b"), 1, 4);
        String apart = Lives.lots(1, 1, 0, 1, 1) + Lives.gaps(0, "dc ce") + Lives.person("p", 1, 0, 0, 0, "d", "e");
        openedIs("more lots than gaps", apart, 1, 4);
        openedIs("no gaps", town("ab", 1, 0, 1), NONE, NONE);
        openedIs("too wide", Lives.lots(1, 0) + Lives.gaps(3, "ab") + Lives.person("p", 1, 2, 0, 0, "a", "b"), NONE, NONE);
        openedIs("barred without tiles, not with one", town("ab bc", 2, 0, 2) + "bar o when tiles=0;", 1, 2);
        openedIs("barred with one", town("ab bc", 2, 0, 2) + "bar o when tiles=1;", NONE, NONE);
        openedIs("barred below two", town("ab bc", 2, 0, 2) + "bar o when tiles<2;", NONE, NONE);
        openedIs("a barred lot is no hole", town("ab bc", 2, 7, 2) + "bar o when tiles=7;", NONE, NONE);
        openedIs("barred with one: another side", (town("ab be ac cd de", 2, 0, 0, 0, 2) + "bar o when height=1 and tiles=1;")
            .replace("lot b of o height 0", "lot b of o height 1").replace("climb 0", "climb 1"), 2, 12);
        TileHeel snowy = Check.told(town("ab bc", 2, 0, 2) + "bar o when tiles=1;");
        snowy.snow(1);
        openedIs("nobody is barred in snow", snowy, 1, 2);
    }

    // ---- BROKE

    private static String ways(int... weights) {
        StringBuilder text = new StringBuilder(Lives.lots(9, 2, 9, 9) + Lives.gaps(0, "ab bc cd"));
        for (int k = 0; k < weights.length; k++) {
            text.append(Lives.person("" + (char) ('p' + k), weights[k], 0, 0, 3, "a", "c"));
        }
        return text.toString();
    }

    private void brokeTerms() {
        ledger.sentence("BROKE: a tile of a LOT broke, a mark of a heel was there: PERSONS with that heel whose WAY, as all is "
            + "now, comes to that LOT, and who would break one there: each is as likely.");
        int[] odds = {1000, 500, 333, 250, 200, 166};
        for (int many = 1; many <= 6; many++) {
            int[] weights = new int[many];
            for (int k = 0; k < many; k++) {
                weights[k] = 11 + k;
            }
            TileHeel x = Check.told(ways(weights));
            ledger.due(many + " of them", x.broke(1, 3, NONE), many);
            ledger.due("bits of " + many, x.broke(1, 3, 20), (1 << many) - 1);
            for (int k = 0; k < many; k++) {
                ledger.due("odds of " + k + " of " + many, x.broke(1, 3, k), odds[many - 1]);
            }
        }
        TileHeel x = Check.told(ways(10, 11, 99) + Lives.person("s", 99, 0, 0, 4, "a", "c")
            + Lives.person("t", 99, 0, 0, 3, "b", "c") + Lives.person("u", 99, 0, 0, 3, "c", "b"));
        ledger.due("10 is not above 5 times 2; another heel; he is there", x.broke(1, 3, 20), 2 + 4 + 32);
        ledger.due("another heel", x.broke(1, 4, 20), 8);
        ledger.due("nobody's heel", x.broke(1, 5, 20), 0);
        ledger.due("on the way's end: 9 tiles", x.broke(2, 3, 20), 4 + 16);
        ledger.due("on no way", x.broke(3, 3, 20), 0);
        ledger.due("where they are", x.broke(0, 3, 20), 0);
        // p breaks b's tile: with one, 10 is above 5
        x.go(1);
        ledger.due("as all is now", x.broke(1, 3, 20), 1 + 2 + 4 + 32);
        x.go(0);
        ledger.due("no way over a hole", x.broke(1, 3, 20), 0);
    }

    // ---- WORTH

    private void worthTerms() {
        ledger.sentence("WORTH of a GAP: COINS of all PERSONS together without it, less COINS with it; a PERSON without a WAY "
            + "counts 1000 COINS.");
        String toll = "toll o tiles when all;";
        ledger.due("without a way, without it", Check.told(town("ab", 1, 8) + toll).worth(0, 1), 1000 - 8);
        ledger.due("no coins", Check.told(town("ab", 1, 8)).worth(0, 1), 1000);
        ledger.due("999 coins", Check.told(town("ab", 1, 8) + "toll o 999 when all;").worth(0, 1), 1);
        TileHeel dear = Check.told(town("ab bc", 1, 1, 1) + "toll o 999 when all;");
        ledger.due("below 0", dear.worth(0, 1), 1000 - 1998);
        ledger.due("below 0, its other gap", dear.worth(2, 1), 1000 - 1998);
        TileHeel sides = Check.told(town("ab bd ac cd", 1, 2, 5, 1) + toll);
        ledger.due("the cheaper side", sides.worth(0, 1), 3);
        ledger.due("the dearer side", sides.worth(0, 2), 0);
        ledger.due("a way without it as dear", Check.told(town("ab bd ac cd", 1, 5, 5, 1) + toll).worth(0, 1), 0);
        TileHeel two = Check.told(town("ab bd ac cd", 1, 2, 5, 1) + toll + Lives.person("q", 1, 2, 0, 0, "d", "a")
            + Lives.person("r", 1, 2, 0, 0, "b", "a") + Lives.person("s", 1, 0, 0, 0, "b", "a"));
        // p and q lose 3 coins each, r goes b d c a for b a: 7 for 1; s has no way at all
        ledger.due("all persons", two.worth(0, 1), 3 + 3 + 6);
        StringBuilder six = new StringBuilder(Lives.lots(1, 8) + Lives.gaps(0, "ab") + toll);
        for (char name = 'p'; name <= 'u'; name++) {
            six.append(Lives.person("" + name, 1, 0, 0, 0, "a", "b"));
        }
        ledger.due("six persons", Check.told(six.toString()).worth(0, 1), 6 * 992);
        ledger.due("nobody has a way", Check.told(town("ab", 1, 8, 1)).worth(0, 1), 0);
        ledger.due("nobody", Check.told(Lives.lots(1, 1) + Lives.gaps(0, "ab")).worth(0, 1), 0);
    }

    // ---- promises 24 to 30

    private void burns() {
        ledger.section("Promise 24: burns");
        String row = Lives.lots(1, 2, 4, 8, 16) + Lives.gaps(0, "ab") + Lives.gaps(1, "bc") + Lives.gaps(2, "cd")
            + Lives.gaps(1, "de");
        TileHeel x = Check.told(row);
        ledger.sentence("LOTS a FIRE on a LOT would be on behind n minutes (0 .. 20), as bits;");
        int[] due = {1, 3, 7, 7};
        for (int n = 0; n < due.length; n++) {
            ledger.due("from a: " + n, x.burns(0, n), due[n]);
        }
        ledger.due("20 minutes", x.burns(0, 20), 7);
        ledger.due("from the other side", x.burns(4, 20), 24);
        TileHeel ten = Check.told(Lives.lots(1, 1, 1, 1, 1, 1, 1, 1, 1, 1) + Lives.gaps(1, "ab bc cd de ef fg gh hi ij"));
        for (int n = 0; n <= 20; n++) {
            ledger.due("of ten in a row: " + n, ten.burns(9, n), 1023 & ~((1 << Math.max(0, 9 - n)) - 1));
        }
        ledger.refused("it burns nothing", Lives::lived, z -> z.burns(2, 20), 4);

        ledger.sentence("NONE when it can't be.");
        for (int n : new int[] {-1, 21, 22, MAX, MIN}) {
            ledger.due("n " + n, x.burns(0, n), NONE);
        }
        for (int lot : new int[] {-1, 5, 10, 32, MAX, MIN}) {
            ledger.due("lot " + lot, x.burns(lot, 0), NONE);
        }
        x.fire(0, 0);
        ledger.due("a hole", x.burns(0, 0), NONE);
        ledger.due("beside a hole", x.burns(1, 20), 6);
        ledger.asks("burns", (z, n) -> {
            z.burns(n, 0);
            z.burns(0, n);
        });
    }

    private void stopped() {
        ledger.section("Promise 25: stopped");
        TileHeel x = Check.told(town("ab bd ac cd", 1, 7, 5, 1));
        ledger.sentence("STOPPED: tiles (what 0), LOTS as bits (1).");
        stoppedIs("both sides", x, 12, 6);
        ledger.refused("it takes nothing", Lives::lived, z -> z.stopped(0, 1), 0);
        ledger.refused("it takes nothing of all", z -> Check.town(z, Lives.TOWN), z -> z.stopped(0, 0), NONE);
        ledger.sentence("NONE when he can't be, there is none such, or for others.");
        stoppedIs("a straight way", town("ab", 1, 1), NONE, NONE);
        for (int none : NO_PERSONS) {
            ledger.due("person " + none, x.stopped(none, 0), NONE);
            ledger.due("bits of person " + none, x.stopped(none, 1), NONE);
        }
        for (int what : new int[] {-1, 2, 3, 20, MAX, MIN}) {
            ledger.due("what " + what, x.stopped(0, what), NONE);
        }
        ledger.asks("stopped", (z, n) -> {
            z.stopped(n, 0);
            z.stopped(0, n);
        });
    }

    private void opened() {
        ledger.section("Promise 26: opened");
        TileHeel x = Check.told(town("ab bc cd", 1, 0, 0, 1));
        ledger.sentence("OPENED: HOLES (what 0; 0 when he has a WAY), as bits (1).");
        openedIs("two in a row", x, 2, 6);
        openedIs("he has a way", town("ab bd", 1, 1, 0, 1), 0, 0);
        ledger.refused("it lays nothing", Lives::lived, z -> z.opened(0, 1), 2);
        ledger.sentence("NONE when he can't be, there is none such, or for others.");
        openedIs("no gap", town("ab", 1, 0, 0, 1), NONE, NONE);
        for (int none : NO_PERSONS) {
            ledger.due("person " + none, x.opened(none, 0), NONE);
            ledger.due("bits of person " + none, x.opened(none, 1), NONE);
        }
        for (int what : new int[] {-1, 2, 3, 20, MAX, MIN}) {
            ledger.due("what " + what, x.opened(0, what), NONE);
        }
        ledger.asks("opened", (z, n) -> {
            z.opened(n, 0);
            z.opened(0, n);
        });
    }

    private void broke() {
        ledger.section("Promise 27: broke");
        TileHeel x = Check.told(ways(11, 10, 12, 13));
        ledger.sentence("BROKE: how many PERSONS (k NONE), as bits (k 20), the odds that it was PERSON k, in thousandths (floor).");
        ledger.due("how many", x.broke(1, 3, NONE), 3);
        ledger.due("bits", x.broke(1, 3, 20), 13);
        ledger.due("a third, floored", x.broke(1, 3, 0), 333);
        ledger.due("not him", x.broke(1, 3, 1), 0);
        ledger.due("the last one", x.broke(1, 3, 3), 333);
        ledger.due("nobody: how many", x.broke(0, 3, NONE), 0);
        ledger.due("nobody: bits", x.broke(0, 3, 20), 0);
        ledger.due("nobody: odds", x.broke(0, 3, 0), 0);
        ledger.due("heel 0", x.broke(1, 0, NONE), 0);
        ledger.due("heel 9", x.broke(1, 9, NONE), 0);
        ledger.refused("it breaks nothing", z -> Check.town(z, Lives.TOWN), z -> z.broke(1, 4, 20), 1);
        ledger.sentence("NONE when there is no such LOT, heel (0 .. 9), or for others.");
        for (int k : new int[] {NONE, 0, 20}) {
            for (int lot : new int[] {-1, 4, 10, 32, MAX, MIN}) {
                ledger.due("lot " + lot + " k " + k, x.broke(lot, 3, k), NONE);
            }
            for (int heel : new int[] {-1, 10, 11, MAX, MIN}) {
                ledger.due("heel " + heel + " k " + k, x.broke(1, heel, k), NONE);
            }
        }
        for (int k : new int[] {-2, 4, 5, 6, 19, 21, 32, MAX, MIN}) {
            ledger.due("k " + k, x.broke(1, 3, k), NONE);
        }
        ledger.asks("broke", (z, n) -> {
            z.broke(n, 4, NONE);
            z.broke(0, n, NONE);
            z.broke(0, 4, n);
        });
    }

    private void worth() {
        ledger.section("Promise 28: worth");
        TileHeel x = Check.told(town("ab bc", 1, 2, 3) + "toll o tiles when all;");
        ledger.sentence("WORTH of the GAP of two LOTS;");
        ledger.due("its first", x.worth(0, 1), 995);
        ledger.due("the other way", x.worth(1, 0), 995);
        ledger.due("its last", x.worth(1, 2), 995);
        ledger.refused("it takes no gap away", Lives::lived, z -> z.worth(0, 1), 0);
        ledger.refused("it takes no gap of a way", z -> Check.town(z, Lives.TOWN), z -> z.worth(1, 2), 998);
        ledger.sentence("NOTHING when they have none, or there are none such.");
        ledger.due("they have none", x.worth(0, 2), NOTHING);
        ledger.due("nor the other way", x.worth(2, 0), NOTHING);
        ledger.due("one lot", x.worth(1, 1), NOTHING);
        for (int none : new int[] {-1, 3, 10, 32, MAX, MIN}) {
            ledger.due("to " + none, x.worth(0, none), NOTHING);
            ledger.due("from " + none, x.worth(none, 0), NOTHING);
            ledger.due("both " + none, x.worth(none, none), NOTHING);
        }
        ledger.asks("worth", (z, n) -> {
            z.worth(n, 0);
            z.worth(0, n);
        });
    }

    private void reach() {
        ledger.section("Promise 29: reach");
        ledger.sentence("LOTS of which a PERSON could be at the end, by STEPS from where he is (he himself there, too), as bits;");
        ledger.due("up to a hole", Check.told(town("ab bc cd de", 1, 1, 1, 0, 1)).reach(0), 7);
        ledger.due("from a hole", Check.told(town("ab bc", 0, 1, 1)).reach(0), 7);
        ledger.due("back to no hole", Check.told(town("ab", 0, 0, 1)).reach(0), 1);
        ledger.due("no gap", Check.told(town("bc", 1, 1, 1)).reach(0), 1);
        ledger.due("past where he goes", Check.told(town("ac cb", 1, 1, 1)).reach(0), 7);
        ledger.due("ten in a row", Check.told(town("ab bc cd de ef fg gh hi ij", 1, 1, 1, 1, 1, 1, 1, 1, 1, 1)).reach(0), 1023);
        ledger.due("not past a barred one", Check.told(town("ab bc", 1, 2, 1) + "bar o when tiles=2;").reach(0), 1);
        ledger.due("as far as he leaps", Check.told(town("ab", 1, 1, 1) + Lives.gaps(3, "bc")).reach(0), 3);
        TileHeel high = Check.told(town("ab bc", 1, 1, 1).replace("c of o height 0", "c of o height 1"));
        ledger.due("as high as he climbs", high.reach(0), 3);
        ledger.refused("he stays", Lives::lived, z -> z.reach(0), 1);
        ledger.sentence("NONE when there is none such.");
        for (int none : NO_PERSONS) {
            ledger.due("person " + none, high.reach(none), NONE);
        }
        ledger.asks("reach", TileHeel::reach);
    }

    private void leaks() {
        ledger.section("Promise 30: leaks");
        ledger.sentence("LOTS that would LEAK, if it RAINED now, as bits.");
        TileHeel x = Check.told(Lives.lots(0, 1, 2, 3, 4, 30));
        ledger.due("none, 1, 2, not 3", x.leaks(), 7);
        x.patch(5, 2);
        ledger.due("3 now", x.leaks(), 3);
        x.patch(3, 5);
        ledger.due("2 now", x.leaks(), 11);
        x.snow(9);
        ledger.due("in snow, too", x.leaks(), 11);
        ledger.due("nobody pays", x.purse(0), 0);
        ledger.due("ten", Check.told(Lives.lots(2, 2, 2, 2, 2, 2, 2, 2, 2, 2)).leaks(), 1023);
        ledger.due("no lots", new TileHeel().leaks(), 0);
        ledger.refused("it does not rain", Lives::lived, TileHeel::leaks, 10);
    }
}
