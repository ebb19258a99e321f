/** Terms II: TOLL, STEP, WAY; Terms III: LEAVE; promises 12 to 15: toll, step, way, leave. */
final class WaySentences {
    private static final int NONE = TileHeel.NONE;
    private static final int MAX = Integer.MAX_VALUE;
    private static final int MIN = Integer.MIN_VALUE;
    private static final String TWO_OWNERS = "owner o;owner q;lot a of o height 0 tiles 5;lot b of q height 0 tiles 5;"
        + "lot c of q height 0 tiles 0;gap a b wide 0;gap b c wide 0;" + Lives.person("p", 10, 0, 0, 0, "a", "b");

    private final Ledger ledger;

    private WaySentences(Ledger ledger) {
        this.ledger = ledger;
    }

    static void hold(Ledger ledger) {
        WaySentences all = new WaySentences(ledger);
        ledger.section("Terms");
        all.tolls();
        all.steps();
        all.ways();
        all.leaves();
        all.promises();
    }

    // ---- TOLL

    private void tolls() {
        ledger.sentence("TOLL of a LOT for a PERSON: NONE, if the TEST of a bar of its OWNER holds (BARRED);");
        tollsOfB("bar q when all;", NONE);
        tollsOfB("bar q when 1=2;", 0);
        tollsOfB("bar o when all;", 0);
        tollsOfB("toll q 7 when all;bar q when all;", NONE);
        tollsOfB("bar q when 1=2;bar q when all;", NONE);
        tollsOfB("bar q when all;bar q when 1=2;", NONE);
        tollsOfB("bar q when weight>9;", NONE);
        tollsOfB("bar q when weight>10;", 0);

        ledger.sentence("else the SUM of the first toll of its OWNER whose TEST holds, 0 .. 999 (below is 0, above 999);");
        tollsOfB("toll q 7 when all;", 7);
        tollsOfB("toll q 7 when all;toll q 8 when all;", 7);
        tollsOfB("toll q 7 when 1=2;toll q 8 when all;", 8);
        tollsOfB("toll q 7 when 1=2;toll q 8 when 1=2;toll q 9 when all;", 9);
        tollsOfB("toll o 6 when all;toll q 7 when all;", 7);
        tollsOfB("toll q 1 when 1=2;".repeat(7) + "toll q 7 when all;", 7);
        tollsOfB("toll q 1 when all;".repeat(7) + "bar q when all;", NONE);
        tollsOfB("bar q when 1=2;toll q 7 when all;bar q when 1=2;", 7);
        tollsOfB("toll q 0 when all;", 0);
        tollsOfB("toll q 0-1 when all;", 0);
        tollsOfB("toll q 0-9999*9999 when all;", 0);
        tollsOfB("toll q 0-1 when all;toll q 5 when all;", 0);
        tollsOfB("toll q 1 when all;", 1);
        tollsOfB("toll q 998 when all;", 998);
        tollsOfB("toll q 999 when all;", 999);
        tollsOfB("toll q 1000 when all;", 999);
        tollsOfB("toll q 9999 when all;", 999);
        tollsOfB("toll q 9999*9999 when all;", 999);

        ledger.sentence("else 0.");
        tollsOfB("", 0);
        tollsOfB("toll q 7 when 1=2;", 0);
        tollsOfB("toll o 7 when all;", 0);
        tollsOfB("bar q when 1=2;toll q 7 when not all;", 0);

        ledger.sentence("In SNOW (0 none .. 9) TOLL is 0 on all LOTS, nobody is BARRED.");
        TileHeel x = Check.told(TWO_OWNERS + "bar q when all;toll o 7 when all;");
        for (int snow : new int[] {1, 2, 9, 0}) {
            x.snow(snow);
            ledger.due("a in snow " + snow, x.toll(0, 0), snow == 0 ? 7 : 0);
            ledger.due("b in snow " + snow, x.toll(0, 1), snow == 0 ? NONE : 0);
            ledger.due("c in snow " + snow, x.toll(0, 2), snow == 0 ? NONE : 0);
            ledger.due("a step to b in snow " + snow, x.step(0, 0, 1), snow == 0 ? 0 : 1);
        }
    }

    private void tollsOfB(String laws, int due) {
        ledger.due("b by " + laws, Check.told(TWO_OWNERS + laws).toll(0, 1), due);
    }

    // ---- STEP

    /** Whether he steps from a to b. */
    private static int steps(int wide, int snow, int leap, int from, int to, int climb) {
        TileHeel x = Check.told("owner o;lot a of o height " + from + " tiles 1;lot b of o height " + to + " tiles 1;gap b a wide "
            + wide + ";" + Lives.person("p", 1, leap, climb, 0, "b", "a"));
        x.snow(snow);
        return x.step(0, 0, 1);
    }

    private void steps() {
        ledger.sentence("A STEP from a LOT to another one: they have a GAP,");
        TileHeel x = Check.told(Lives.lots(1, 1, 1) + Lives.gaps(0, "ab bc") + Lives.person("p", 1, 9, 20, 0, "a", "b"));
        int[][] due = {{0, 1, 0}, {1, 0, 1}, {0, 1, 0}};
        for (int from = 0; from < 3; from++) {
            for (int to = 0; to < 3; to++) {
                ledger.due("from " + from + " to " + to, x.step(0, from, to), due[from][to]);
            }
        }

        ledger.sentence("wide less SNOW is not above leap,");
        for (int leap : new int[] {0, 1, 4, 8, 9}) {
            for (int wide = 0; wide <= 9; wide++) {
                ledger.due("wide " + wide + " leap " + leap, steps(wide, 0, leap, 0, 0, 0), wide <= leap ? 1 : 0);
            }
        }
        ledger.due("wide 5 less 1, leap 4", steps(5, 1, 4, 0, 0, 0), 1);
        ledger.due("wide 6 less 1, leap 4", steps(6, 1, 4, 0, 0, 0), 0);
        ledger.due("wide 9 less 9, leap 0", steps(9, 9, 0, 0, 0, 0), 1);
        ledger.due("wide 9 less 8, leap 0", steps(9, 8, 0, 0, 0, 0), 0);
        ledger.due("wide 9 less 8, leap 1", steps(9, 8, 1, 0, 0, 0), 1);
        ledger.due("wide 0 less 9, leap 0", steps(0, 9, 0, 0, 0, 0), 1);

        ledger.sentence("the other one's height less this one's is not above climb,");
        ledger.due("up 0, climb 0", steps(0, 0, 0, 5, 5, 0), 1);
        ledger.due("up 1, climb 0", steps(0, 0, 0, 5, 6, 0), 0);
        ledger.due("up 1, climb 1", steps(0, 0, 0, 5, 6, 1), 1);
        ledger.due("down 1, climb 0", steps(0, 0, 0, 6, 5, 0), 1);
        ledger.due("down 20, climb 0", steps(0, 0, 0, 20, 0, 0), 1);
        ledger.due("up 20, climb 20", steps(0, 0, 0, 0, 20, 20), 1);
        ledger.due("up 20, climb 19", steps(0, 0, 0, 0, 20, 19), 0);
        ledger.due("up 1, climb 0, in snow", steps(0, 9, 0, 5, 6, 0), 0);
        TileHeel stairs = Check.told("owner o;lot a of o height 0 tiles 1;lot b of o height 5 tiles 1;lot c of o height 10 tiles 1;"
            + Lives.gaps(0, "ab bc ac") + Lives.person("p", 1, 0, 5, 0, "a", "b") + Lives.person("q", 1, 0, 4, 0, "a", "b"));
        int[][] up = {{0, 1, 0}, {1, 0, 1}, {1, 1, 0}};
        for (int from = 0; from < 3; from++) {
            for (int to = 0; to < 3; to++) {
                ledger.due("stairs, climb 5, from " + from + " to " + to, stairs.step(0, from, to), up[from][to]);
                ledger.due("stairs, climb 4, from " + from + " to " + to, stairs.step(1, from, to), from > to ? 1 : 0);
            }
        }

        ledger.sentence("the other one is no HOLE and not BARRED.");
        TileHeel y = Check.told("owner o;owner q;lot a of o height 0 tiles 0;lot b of o height 0 tiles 1;"
            + "lot c of q height 0 tiles 1;" + Lives.gaps(0, "ab bc") + Lives.person("p", 1, 0, 0, 0, "a", "b")
            + "bar q when all;");
        ledger.due("from a hole", y.step(0, 0, 1), 1);
        ledger.due("to a hole", y.step(0, 1, 0), 0);
        ledger.due("to a barred one", y.step(0, 1, 2), 0);
        ledger.due("from a barred one", y.step(0, 2, 1), 1);
        y.snow(1);
        ledger.due("to a hole in snow", y.step(0, 1, 0), 0);
        ledger.due("nobody is barred in snow", y.step(0, 1, 2), 1);
    }

    // ---- WAY

    private void wayIs(String what, TileHeel x, int coins, int... lots) {
        ledger.due(what + ": coins", x.way(0, NONE), coins);
        ledger.due(what + ": steps", x.way(0, 20), lots.length);
        for (int k = 0; k < lots.length; k++) {
            ledger.due(what + ": lot " + k, x.way(0, k), lots[k]);
        }
        ledger.due(what + ": behind it", x.way(0, lots.length), NONE);
    }

    /** p goes from a to the last of these lots; each takes a coin less than it has tiles. */
    private static TileHeel grid(String gaps, int... tiles) {
        String last = "" + (char) ('a' + tiles.length - 1);
        return Check.told(Lives.lots(tiles) + Lives.gaps(0, gaps) + Lives.person("p", 1, 0, 0, 0, "a", last)
            + "toll o tiles-1 when all;");
    }

    private void ways() {
        ledger.sentence("A WAY of a PERSON: STEPS from where he is to where he goes; COINS: TOLLS of all LOTS he comes to;");
        wayIs("one step, its end counts, not where he is", grid("ab", 9, 4), 3, 1);
        wayIs("two", grid("ab bc", 9, 4, 6), 8, 1, 2);
        wayIs("nine", grid("ab bc cd de ef fg gh hi ij", 1, 2, 2, 2, 2, 2, 2, 2, 2, 2), 9, 1, 2, 3, 4, 5, 6, 7, 8, 9);
        wayIs("from a hole", grid("ab", 0, 5), 4, 1);
        ledger.due("to a hole", grid("ab", 5, 0).way(0, NONE), NONE);
        ledger.due("over a hole", grid("ab bc", 5, 0, 5).way(0, NONE), NONE);
        ledger.due("no gaps", Check.told(Lives.lots(1, 1) + Lives.person("p", 1, 9, 20, 0, "a", "b")).way(0, NONE), NONE);
        TileHeel dear = Check.told(Lives.lots(1, 1, 1, 1, 1, 1, 1, 1, 1, 1) + Lives.gaps(0, "ab bc cd de ef fg gh hi ij")
            + Lives.person("p", 1, 0, 0, 0, "a", "j") + "toll o 9999 when all;");
        wayIs("the dearest", dear, 8991, 1, 2, 3, 4, 5, 6, 7, 8, 9);

        ledger.sentence("the fewest COINS, of like ones the fewest STEPS, of like ones the first by LOTS, one behind the other.");
        wayIs("a coin less for a long detour", grid("ae ab bc cd df ef", 1, 1, 1, 1, 2, 1), 0, 1, 2, 3, 5);
        wayIs("of like coins the fewest steps", grid("ab bc cf ae ef", 1, 1, 1, 1, 1, 1), 0, 4, 5);
        wayIs("a coin more is not taken for a step less", grid("ab be ac cd de", 1, 5, 2, 3, 1), 3, 2, 3, 4);
        wayIs("as many coins, a step less", grid("ab be ac cd de", 1, 4, 2, 3, 1), 3, 1, 4);
        wayIs("of like steps the first lot", grid("ac ce ab be ad de", 1, 2, 2, 2, 1), 1, 1, 4);
        wayIs("the first lot ahead of the next one", grid("ac cb bf ab bd df ad", 1, 1, 1, 1, 1, 1), 0, 1, 5);
        wayIs("the first, though the next one is a later one", grid("ab be ac cd ef df", 1, 1, 1, 1, 1, 1), 0, 1, 4, 5);
        wayIs("the second lot, when the first is one", grid("ab bd be bc cf df ef", 1, 1, 1, 1, 1, 1), 0, 1, 2, 5);
    }

    // ---- LEAVE

    private void leaveIs(String what, TileHeel x, int person, int owners, int bits) {
        ledger.due(what + ": owners", x.leave(person, 0), owners);
        ledger.due(what + ": bits", x.leave(person, 1), bits);
    }

    /** From a to e by b, by c or by d: of these owners. */
    private static TileHeel sides(String a, String b, String c, String d, String e) {
        String[] owners = {a, b, c, d, e};
        StringBuilder text = new StringBuilder(TextChecks.FIVE_OWNERS);
        for (int k = 0; k < 5; k++) {
            text.append("lot ").append((char) ('a' + k)).append(" of ").append(owners[k]).append(" height 0 tiles 1;");
        }
        return Check.told(text + Lives.gaps(0, "ab be ac ce ad de") + Lives.person("p", 1, 0, 0, 0, "a", "e")
            + Lives.person("x", 1, 0, 0, 0, "e", "a"));
    }

    private void leaves() {
        ledger.sentence("LEAVE: OWNERS, by whose leave alone (LOTS of all others BARRED, his end, too, but not where he is) a "
            + "PERSON has a WAY: the fewest OWNERS, of like ones the least bits.");
        // owners o q r s t: bits 1 2 4 8 16
        leaveIs("one owner of all", sides("o", "o", "o", "o", "o"), 0, 1, 1);
        leaveIs("not where he is", sides("o", "t", "t", "t", "t"), 0, 1, 16);
        leaveIs("his end, too", sides("o", "q", "q", "q", "t"), 0, 2, 18);
        leaveIs("back", sides("o", "q", "q", "q", "t"), 1, 2, 3);
        leaveIs("the end's owner has a side", sides("o", "q", "t", "r", "t"), 0, 1, 16);
        leaveIs("the least bits of like ones", sides("o", "s", "r", "q", "t"), 0, 2, 18);
        leaveIs("the least bits, another order", sides("o", "r", "q", "s", "t"), 0, 2, 18);
        TileHeel two = Check.told(TextChecks.FIVE_OWNERS + "lot a of t height 0 tiles 1;lot b of o height 0 tiles 1;"
            + "lot c of q height 0 tiles 1;lot d of s height 0 tiles 1;lot e of r height 0 tiles 1;"
            + Lives.gaps(0, "ab bc ce ad de") + Lives.person("p", 1, 0, 0, 0, "a", "e"));
        leaveIs("two are fewer than three, with more bits", two, 0, 2, 12);
        two.fire(3, 0);
        leaveIs("three", two, 0, 3, 7);
        TileHeel all = Check.told(TextChecks.FIVE_OWNERS + "lot a of o height 0 tiles 1;lot b of q height 0 tiles 1;"
            + "lot c of r height 0 tiles 1;lot d of s height 0 tiles 1;lot e of t height 0 tiles 1;lot f of o height 0 tiles 1;"
            + Lives.gaps(0, "ab bc cd de ef") + Lives.person("p", 1, 0, 0, 0, "a", "f") + "bar q when night=1;");
        leaveIs("all five", all, 0, 5, 31);
        all.night();
        leaveIs("barred anyhow", all, 0, NONE, NONE);
        TileHeel ten = Check.told(TextChecks.FIVE_OWNERS + Lives.lots(1, 1, 1, 1, 1, 1, 1, 1, 1, 1).replace("owner o;", "")
            .replace("lot j of o", "lot j of t") + Lives.gaps(0, "ab bc cd de ef fg gh hi ij")
            + Lives.person("p", 1, 0, 0, 0, "a", "j"));
        leaveIs("ten lots", ten, 0, 2, 17);
        TileHeel few = Check.told(TextChecks.FIVE_OWNERS + "lot a of s height 0 tiles 1;lot b of t height 0 tiles 1;"
            + Lives.gaps(0, "ab") + Lives.person("p", 1, 0, 0, 0, "a", "b"));
        leaveIs("more owners than lots", few, 0, 1, 16);
    }

    // ---- promises 12 to 15

    private void promises() {
        toll();
        step();
        way();
        leave();
    }

    private void toll() {
        ledger.section("Promise 12: toll");
        TileHeel x = Check.told(TWO_OWNERS + "bar q when tiles=0;toll q 9 when all;toll o weight when all;");
        ledger.sentence("TOLL of a LOT for a PERSON;");
        ledger.due("where he is", x.toll(0, 0), 10);
        ledger.due("where he goes", x.toll(0, 1), 9);
        ledger.sentence("NONE when he is BARRED;");
        ledger.due("a barred hole", x.toll(0, 2), NONE);
        ledger.sentence("-2 when there are none such.");
        for (int none : new int[] {-1, 3, 10, 32, MAX, MIN}) {
            ledger.due("lot " + none, x.toll(0, none), -2);
        }
        for (int none : new int[] {-1, 1, 6, 32, MAX, MIN}) {
            ledger.due("person " + none, x.toll(none, 0), -2);
            ledger.due("person and lot " + none, x.toll(none, -1), -2);
        }
        x.snow(3);
        ledger.due("no lot in snow", x.toll(0, 3), -2);
        ledger.due("no person in snow", x.toll(1, 0), -2);
        ledger.asks("toll", (z, n) -> {
            z.toll(n, 0);
            z.toll(0, n);
        });
    }

    private void step() {
        ledger.section("Promise 13: step");
        TileHeel x = Check.told(TWO_OWNERS);
        ledger.sentence("Whether a PERSON can make a STEP from a LOT to another one: 1, 0;");
        ledger.due("a to b", x.step(0, 0, 1), 1);
        ledger.due("b to hole c", x.step(0, 1, 2), 0);
        ledger.due("c to b, where he is not", x.step(0, 2, 1), 1);
        ledger.due("a to c", x.step(0, 0, 2), 0);
        ledger.due("a to a", x.step(0, 0, 0), 0);
        ledger.sentence("NONE when there are none such.");
        for (int none : new int[] {-1, 3, 10, 32, MAX, MIN}) {
            ledger.due("to " + none, x.step(0, 0, none), NONE);
            ledger.due("from " + none, x.step(0, none, 0), NONE);
            ledger.due("from and to " + none, x.step(0, none, none), NONE);
        }
        for (int none : new int[] {-1, 1, 6, 32, MAX, MIN}) {
            ledger.due("person " + none, x.step(none, 0, 1), NONE);
        }
        ledger.asks("step", (z, n) -> {
            z.step(n, 0, 1);
            z.step(0, n, 1);
            z.step(0, 0, n);
        });
    }

    private void way() {
        ledger.section("Promise 14: way");
        TileHeel x = grid("ab bc cd", 1, 3, 4, 5, 1);
        TileHeel y = grid("ab bc cd de", 1, 3, 4, 5, 6);
        ledger.sentence("A WAY of a PERSON: COINS (k NONE), the k-th LOT he comes to (0 and on), how many STEPS (k 20).");
        ledger.due("coins", y.way(0, NONE), 14);
        ledger.due("lot 0", y.way(0, 0), 1);
        ledger.due("lot 1", y.way(0, 1), 2);
        ledger.due("lot 2", y.way(0, 2), 3);
        ledger.due("lot 3, the end", y.way(0, 3), 4);
        ledger.due("steps", y.way(0, 20), 4);
        ledger.sentence("NONE without, when there is none such, or for others.");
        for (int k : new int[] {NONE, 0, 1, 20}) {
            ledger.due("without, " + k, x.way(0, k), NONE);
            for (int none : new int[] {-1, 1, 6, 32, MAX, MIN}) {
                ledger.due("person " + none + ", " + k, y.way(none, k), NONE);
            }
        }
        for (int k : new int[] {-2, 4, 5, 9, 10, 19, 21, MAX, MIN}) {
            ledger.due("k " + k, y.way(0, k), NONE);
        }
        ledger.asks("way", (z, n) -> {
            z.way(n, NONE);
            z.way(0, n);
        });
    }

    private void leave() {
        ledger.section("Promise 15: leave");
        TileHeel x = sides("o", "q", "q", "q", "t");
        ledger.sentence("LEAVE of a PERSON: how many OWNERS (what 0), bits (1).");
        ledger.due("owners", x.leave(0, 0), 2);
        ledger.due("bits", x.leave(0, 1), 18);
        ledger.sentence("NONE when he has no WAY, there is none such, or for others.");
        for (int what : new int[] {-1, 2, 3, 20, MAX, MIN}) {
            ledger.due("what " + what, x.leave(0, what), NONE);
        }
        for (int none : new int[] {-1, 2, 6, 32, MAX, MIN}) {
            ledger.due("person " + none, x.leave(none, 0), NONE);
            ledger.due("bits of person " + none, x.leave(none, 1), NONE);
        }
        x.fire(4, 0);
        ledger.due("no way", x.leave(0, 0), NONE);
        ledger.due("bits without a way", x.leave(0, 1), NONE);
        ledger.asks("leave", (z, n) -> {
            z.leave(n, 0);
            z.leave(0, n);
        });
        ledger.sentence("(In SNOW all LOTS of others count as BARRED, too.)");
        TileHeel y = Check.told(TWO_OWNERS + "bar q when all;");
        ledger.due("barred by a bar", y.leave(0, 0), NONE);
        for (int snow : new int[] {1, 9}) {
            y.snow(snow);
            ledger.due("in snow " + snow, y.leave(0, 0), 1);
            ledger.due("q's alone in snow " + snow, y.leave(0, 1), 2);
        }
    }
}
