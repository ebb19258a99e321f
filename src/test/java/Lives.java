/** A town in which much can happen, and what has happened there; and how draws are made. */
final class Lives {
    /**
     * p goes from a by b to c, and breaks a tile of b (11 is above 5 times 2); r has no way, as d is a hole. q's
     * lots take as many coins as they have tiles. b and d leak, so that draws show in q's purse; c's inn is full.
     */
    static final String TOWN = "owner q;owner o;lot a of o height 2 tiles 3;lot b of q height 4 tiles 2;"
        + "lot c of o height 3 tiles 30;lot d of q height 0 tiles 0;inn c beds 1;stork b;gap a b wide 2;gap b c wide 1;"
        + "gap c d wide 0;person p weight 11 leap 3 climb 2 heel 4 at a to c;"
        + "person r weight 20 leap 2 climb 1 heel 4 at c to d;toll q tiles when all;carry 5;rain 50;";

    private Lives() {
    }

    /** Told, with an image, another seed, and four acts: NIGHT 1, SNOW 2, two tiles led to p. */
    static void lived(TileHeel x) {
        Check.town(x, TOWN);
        x.seed(77);
        x.image();
        x.go(0);
        x.patch(2, 0);
        x.night();
        x.snow(2);
    }

    /** One owner o; lots a, b .. of height 0 with these tiles. */
    static String lots(int... tiles) {
        StringBuilder text = new StringBuilder("owner o;");
        for (int k = 0; k < tiles.length; k++) {
            text.append("lot ").append((char) ('a' + k)).append(" of o height 0 tiles ").append(tiles[k]).append(';');
        }
        return text.toString();
    }

    /** Gaps as pairs of letters with a blank between them, all as wide. */
    static String gaps(int wide, String pairs) {
        StringBuilder text = new StringBuilder();
        for (String pair : pairs.split(" ")) {
            text.append("gap ").append(pair.charAt(0)).append(' ').append(pair.charAt(1)).append(" wide ").append(wide)
                .append(';');
        }
        return text.toString();
    }

    static String person(String name, int weight, int leap, int climb, int heel, String at, String to) {
        return "person " + name + " weight " + weight + " leap " + leap + " climb " + climb + " heel " + heel + " at " + at
            + " to " + to + ";";
    }

    /** Five owners, ten lots, twenty gaps, six persons, who go round. */
    static String largest() {
        StringBuilder text = new StringBuilder("owner o;owner q;owner r;owner s;owner t;");
        for (int k = 0; k < 10; k++) {
            text.append("lot ").append((char) ('a' + k)).append(" of ").append("oqrst".charAt(k % 5)).append(" height 0 tiles ")
                .append(k + 2).append(';');
        }
        text.append(gaps(0, "ab bc cd de ef fg gh hi ij ja")).append(gaps(9, "ac bd ce df eg fh gi hj ia jb"));
        for (int k = 0; k < 6; k++) {
            text.append(person("p" + (char) ('a' + k), 1, 0, 0, 0, "" + (char) ('a' + k), "" + (char) ('e' + k)));
        }
        return text + "toll o 1 when all;toll q 256 when all;toll t 999 when all;rain 100;";
    }

    static long next(long seed) {
        return (1103515245L * seed + 12345L) % 2147483648L;
    }

    /** The draw of 100 that this seed gives next. */
    static long draw(long seed) {
        return next(seed) / 64 % 100;
    }

    /** The least seed whose draw of 100 is this. */
    static int seedOf(int draw) {
        int seed = 0;
        while (draw(seed) != draw) {
            seed++;
        }
        return seed;
    }
}
