/** Promises 6 to 11: has, letter, lot, gap, person, purse; and what a HOLE is, when an INN is FULL. */
final class HoldingsSentences {
    private static final int NONE = TileHeel.NONE;
    private static final int MAX = Integer.MAX_VALUE;
    private static final int MIN = Integer.MIN_VALUE;
    /** Two owners, three lots, two gaps, four persons, five laws. */
    private static final String TOWN = "owner az;owner o;lot abcdef of o height 7 tiles 12;"
        + "lot b of az height 0 tiles 0;lot uvwxyz of o height 20 tiles 30;inn b beds 9;inn uvwxyz beds 1;stork uvwxyz;"
        + "gap abcdef b wide 9;gap uvwxyz abcdef wide 0;" + Lives.person("p", 61, 9, 20, 3, "abcdef", "uvwxyz")
        + Lives.person("q", 1, 0, 0, 9, "b", "abcdef") + Lives.person("r", 99, 0, 3, 0, "b", "abcdef")
        + Lives.person("s", 50, 4, 5, 6, "abcdef", "b")
        + "toll az 3 when all;bar o when night=9;toll o 2 when all;bar az when 1=2;bar az when 2=3;carry 4;rain 33;";

    private final Ledger ledger;

    private HoldingsSentences(Ledger ledger) {
        this.ledger = ledger;
    }

    static void hold(Ledger ledger) {
        HoldingsSentences all = new HoldingsSentences(ledger);
        ledger.section("Terms");
        all.holes();
        all.fullInns();
        all.has();
        all.letter();
        all.lot();
        all.gap();
        all.person();
        all.purse();
    }

    private void holes() {
        ledger.sentence("II. A LOT without tiles is a HOLE.");
        TileHeel x = Check.told(Lives.lots(0, 1, 2));
        ledger.due("one without", x.has(10), 1);
        x.patch(1, 2);
        ledger.due("the last one taken", x.has(10), 2);
        x.patch(2, 0);
        ledger.due("one laid", x.has(10), 1);
        x.fire(2, 0);
        ledger.due("burnt", x.has(10), 2);
        TileHeel broken = Check.told(Lives.lots(1, 1) + Lives.gaps(0, "ab") + Lives.person("p", 6, 0, 0, 0, "a", "b"));
        broken.go(0);
        ledger.due("broken", broken.has(10), 1);
    }

    private void fullInns() {
        ledger.sentence("An INN is FULL, if as many PERSONS as it has beds, or more, are at its LOT.");
        for (int beds = 1; beds <= 9; beds++) {
            StringBuilder text = new StringBuilder(Lives.lots(9, 9) + Lives.gaps(0, "ab") + "inn a beds " + beds + ";");
            for (char name = 'p'; name <= 'u'; name++) {
                text.append(Lives.person("" + name, 1, 0, 0, 0, "b", "a"));
            }
            TileHeel x = Check.told(text.toString());
            for (int there = 0; there <= 6; there++) {
                ledger.due(there + " persons for " + beds + " beds", x.lot(0, 6), there >= beds ? 1 : 0);
                x.go(there);
            }
        }
    }

    private void has() {
        ledger.section("Promise 6: has");
        ledger.sentence("How many there are: 0 OWNERS, 1 LOTS, 2 GAPS, 3 PERSONS, 4 LAWS, 5 carry, 6 rain, 7 NIGHT, 8 SNOW, "
            + "9 tiles of all LOTS, 10 HOLES, 11 tiles that are told as LED, 12 ACTS that can be undone.");
        TileHeel x = Check.told(TOWN);
        hasAll("at first", x, 2, 3, 2, 4, 5, 4, 33, 0, 0, 42, 1, 0, 0);
        x.snow(7);
        x.go(0);
        x.patch(0, 1);
        x.night();
        // by night p breaks one of abcdef (61 is above 4 times 11), s the one that was laid on b
        hasAll("later", x, 2, 3, 2, 4, 5, 4, 33, 1, 7, 40, 1, 2, 4);
        TileHeel most = Check.told(TextChecks.gaps(20));
        ledger.due("ten lots", most.has(1), 10);
        ledger.due("twenty gaps", most.has(2), 20);
        ledger.due("tiles of ten lots", most.has(9), 300);
        ledger.due("no holes", most.has(10), 0);
        TileHeel none = Check.told(TextChecks.gaps(20).replace("tiles 30", "tiles 0"));
        ledger.due("no tiles", none.has(9), 0);
        ledger.due("ten holes", none.has(10), 10);
        ledger.due("five owners", Check.told(TextChecks.FIVE_OWNERS).has(0), 5);
        ledger.due("six persons", Check.told(TextChecks.persons(6)).has(3), 6);
        ledger.due("eight laws", Check.told("owner o;" + "bar o when all;".repeat(8)).has(4), 8);
        lessBehindMore();

        ledger.sentence("NONE for others.");
        for (int what : new int[] {-1, 13, 14, 20, 32, MAX, MIN}) {
            ledger.due("has(" + what + ")", x.has(what), NONE);
        }
        ledger.asks("has", TileHeel::has);
    }

    /** What a larger town had is not counted in a smaller one. */
    private void lessBehindMore() {
        TileHeel x = new TileHeel();
        Check.town(x, TextChecks.gaps(20) + "inn la beds 2;stork la;stork lb;inn lb beds 1;");
        Check.town(x, TextChecks.gaps(20) + "inn la beds 2;stork la;stork lb;inn lb beds 1;");
        x.snow(4);
        for (int again = 0; again < 2; again++) {
            Check.town(x, Lives.lots(1, 0));
            hasAll("a small town", x, 1, 2, 0, 0, 0, 5, 0, 0, 0, 1, 1, 0, 0);
            ledger.due("no gap", x.gap(0, 1), NONE);
            ledger.due("no inn", x.lot(0, 3) + x.lot(1, 3), 0);
            ledger.due("no stork", x.lot(0, 4) + x.lot(1, 4), 0);
        }
        Check.town(x, TOWN);
        Check.town(x, TOWN);
        Check.town(x, Lives.lots(1, 0));
        hasAll("a small town", x, 1, 2, 0, 0, 0, 5, 0, 0, 0, 1, 1, 0, 0);
        ledger.due("no persons", x.lot(0, 5), 0);
    }

    private void hasAll(String when, TileHeel x, int... due) {
        for (int what = 0; what < due.length; what++) {
            ledger.due(when + ": has(" + what + ")", x.has(what), due[what]);
        }
    }

    private void letter() {
        ledger.section("Promise 7: letter");
        ledger.sentence("Letter k (0 .. 5) of the NAME of an OWNER (kind 0), a LOT (1), a PERSON (2): 1 .. 26; 0 behind it;");
        TileHeel x = Check.told(TOWN);
        String[][] names = {{"az", "o"}, {"abcdef", "b", "uvwxyz"}, {"p", "q", "r", "s"}};
        for (int kind = 0; kind < 3; kind++) {
            for (int which = 0; which < names[kind].length; which++) {
                String name = names[kind][which];
                for (int k = 0; k < 6; k++) {
                    ledger.due(name + " " + k, x.letter(kind, which, k), k < name.length() ? name.charAt(k) - 'a' + 1 : 0);
                }
            }
        }
        ledger.sentence("NONE when there is none such.");
        for (int k : new int[] {-1, 6, 7, 32, MAX, MIN}) {
            ledger.due("letter " + k + " of an owner", x.letter(0, 0, k), NONE);
            ledger.due("letter " + k + " of six", x.letter(1, 0, k), NONE);
            ledger.due("letter " + k + " of a person", x.letter(2, 3, k), NONE);
        }
        for (int kind : new int[] {-1, 3, 4, MAX, MIN}) {
            ledger.due("kind " + kind, x.letter(kind, 0, 0), NONE);
        }
        int[] counts = {2, 3, 4};
        for (int kind = 0; kind < 3; kind++) {
            for (int which : new int[] {-1, counts[kind], counts[kind] + 1, 32, MAX, MIN}) {
                ledger.due("kind " + kind + " which " + which, x.letter(kind, which, 0), NONE);
                ledger.due("kind " + kind + " which " + which, x.letter(kind, which, 5), NONE);
            }
        }
        ledger.asks("letter", (z, n) -> {
            z.letter(n, 0, 0);
            z.letter(0, n, 0);
            z.letter(1, 0, n);
        });
    }

    private void lot() {
        ledger.section("Promise 8: lot");
        ledger.sentence("Of a LOT: 0 its OWNER, 1 height, 2 tiles, 3 beds (0: no INN), 4 whether it has a stork, 5 PERSONS "
            + "there now, 6 whether its INN is FULL (0 without).");
        TileHeel x = Check.told(TOWN);
        int[][] due = {{1, 7, 12, 0, 0, 2, 0}, {0, 0, 0, 9, 0, 2, 0}, {1, 20, 30, 1, 1, 0, 0}};
        rows("lot", due, x);
        x.go(0);
        x.go(0);
        x.go(0);
        // p went to uvwxyz, back, and there again: of abcdef one tile broke (61 is above 4 times 12)
        int[][] later = {{1, 7, 11, 0, 0, 1, 0}, {0, 0, 0, 9, 0, 2, 0}, {1, 20, 30, 1, 1, 1, 1}};
        rows("later lot", later, x);

        ledger.sentence("NONE when there is none such, or for others.");
        for (int lot : new int[] {-1, 3, 9, 10, 32, MAX, MIN}) {
            for (int what = 0; what < 7; what++) {
                ledger.due("lot " + lot + " what " + what, x.lot(lot, what), NONE);
            }
        }
        for (int what : new int[] {-1, 7, 8, MAX, MIN}) {
            ledger.due("what " + what, x.lot(0, what), NONE);
            ledger.due("what " + what, x.lot(2, what), NONE);
        }
        ledger.asks("lot", (z, n) -> {
            z.lot(n, 0);
            z.lot(0, n);
        });
    }

    private void rows(String call, int[][] due, TileHeel x) {
        for (int lot = 0; lot < due.length; lot++) {
            for (int what = 0; what < due[lot].length; what++) {
                ledger.due(call + "(" + lot + "," + what + ")", x.lot(lot, what), due[lot][what]);
            }
        }
    }

    private void gap() {
        ledger.section("Promise 9: gap");
        ledger.sentence("How wide the GAP of two LOTS is;");
        TileHeel x = Check.told(TOWN);
        ledger.due("9", x.gap(0, 1), 9);
        ledger.due("9 the other way", x.gap(1, 0), 9);
        ledger.due("0", x.gap(2, 0), 0);
        ledger.due("0 the other way", x.gap(0, 2), 0);
        x.snow(9);
        ledger.due("as wide in snow", x.gap(0, 1), 9);
        ledger.sentence("NONE when they have none, or there are none such.");
        ledger.due("they have none", x.gap(1, 2), NONE);
        ledger.due("nor the other way", x.gap(2, 1), NONE);
        for (int lot = 0; lot < 3; lot++) {
            ledger.due("one lot", x.gap(lot, lot), NONE);
        }
        for (int none : new int[] {-1, 3, 10, 32, MAX, MIN}) {
            ledger.due("to " + none, x.gap(0, none), NONE);
            ledger.due("from " + none, x.gap(none, 0), NONE);
            ledger.due("both " + none, x.gap(none, none), NONE);
        }
        ledger.asks("gap", (z, n) -> {
            z.gap(n, 0);
            z.gap(0, n);
        });
    }

    private void person() {
        ledger.section("Promise 10: person");
        ledger.sentence("Of a PERSON: 0 weight, 1 leap, 2 climb, 3 heel, 4 the LOT he is at, 5 the one he goes to, 6 tiles "
            + "LED to him (of those that are told).");
        TileHeel x = Check.told(TOWN);
        int[][] due = {
            {61, 9, 20, 3, 0, 2, 0}, {1, 0, 0, 9, 1, 0, 0}, {99, 0, 3, 0, 1, 0, 0}, {50, 4, 5, 6, 0, 1, 0}};
        for (int person = 0; person < due.length; person++) {
            for (int what = 0; what < 7; what++) {
                ledger.due("person(" + person + "," + what + ")", x.person(person, what), due[person][what]);
            }
        }
        x.go(0);
        ledger.due("he is there", x.person(0, 4), 2);
        ledger.due("he goes back", x.person(0, 5), 0);
        x.go(0);
        ledger.due("led to him", x.person(0, 6), 1);
        ledger.due("not to another", x.person(3, 6), 0);
        ledToldAlone();

        ledger.sentence("NONE when there is none such, or for others.");
        for (int person : new int[] {-1, 4, 6, 32, MAX, MIN}) {
            for (int what = 0; what < 7; what++) {
                ledger.due("person " + person + " what " + what, x.person(person, what), NONE);
            }
        }
        for (int what : new int[] {-1, 7, 8, MAX, MIN}) {
            ledger.due("what " + what, x.person(0, what), NONE);
            ledger.due("what " + what, x.person(3, what), NONE);
        }
        ledger.asks("person", (z, n) -> {
            z.person(n, 0);
            z.person(0, n);
        });
    }

    /** 60 tiles of p's and one of q's: the oldest of p's is told no more. */
    private void ledToldAlone() {
        TileHeel x = Check.told(Lives.lots(30, 30, 30, 30) + Lives.gaps(0, "ab cd") + "carry 1;"
            + Lives.person("p", 99, 0, 0, 0, "a", "b") + Lives.person("q", 99, 0, 0, 0, "c", "d"));
        for (int k = 0; k < 59; k++) {
            x.go(0);
        }
        ledger.due("59 of p's", x.person(0, 6), 59);
        x.go(1);
        ledger.due("59 of p's, one of q's", x.person(0, 6), 59);
        ledger.due("one of q's", x.person(1, 6), 1);
        x.go(1);
        ledger.due("58 of p's are told", x.person(0, 6), 58);
        ledger.due("two of q's", x.person(1, 6), 2);
    }

    private void purse() {
        ledger.section("Promise 11: purse");
        ledger.sentence("PURSE of an OWNER;");
        TileHeel x = Check.told(TOWN);
        ledger.due("at first", x.purse(0), 0);
        ledger.due("at first", x.purse(1), 0);
        x.go(0);
        ledger.due("az takes nothing", x.purse(0), 0);
        ledger.due("o takes 2", x.purse(1), 2);
        ledger.sentence("NOTHING when there is none such.");
        for (int owner : new int[] {-1, 2, 5, 32, MAX, MIN}) {
            ledger.due("owner " + owner, x.purse(owner), TileHeel.NOTHING);
        }
        ledger.asks("purse", TileHeel::purse);
    }
}
