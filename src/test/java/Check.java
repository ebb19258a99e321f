/** Counts what is due and what came, and tells each difference. */
final class Check {
    private final String name;
    private int right;
    private int wrong;

    Check(String name) {
        this.name = name;
    }

    void due(String call, long got, long want) {
        if (got == want) {
            right++;
        } else {
            wrong++;
            System.out.println(name + ": " + call + " answered " + got + ", due is " + want);
        }
    }

    void due(String call, boolean got, boolean want) {
        due(call, got ? 1 : 0, want ? 1 : 0);
    }

    int wrongs() {
        return wrong;
    }

    void close() {
        System.out.println(name + ": " + right + " as due, " + wrong + " not");
        if (wrong != 0 || right == 0) {
            System.exit(1);
        }
    }

    /** Puts a text (or bytes) on the tape, which has to be empty. */
    static void feed(TileHeel x, String text) {
        for (int from = 0; from < text.length(); from += 20) {
            int[] five = new int[5];
            for (int k = 0; k < 20; k++) {
                int c = from + k < text.length() ? text.charAt(from + k) : ' ';
                five[k / 4] = five[k / 4] << 8 | c & 255;
            }
            x.feed(five[0], five[1], five[2], five[3], five[4]);
        }
        x.end(text.length());
    }

    static int town(TileHeel x, String text) {
        feed(x, text);
        return x.town();
    }

    static TileHeel told(String text) {
        TileHeel x = new TileHeel();
        if (town(x, text) < 0) {
            throw new IllegalStateException("fault " + x.fault(0) + " at " + x.fault(1) + " in " + text);
        }
        return x;
    }

    /** The bytes of an image, with the byte that has to stand last. */
    static String image(int... bytes) {
        StringBuilder all = new StringBuilder();
        int c = 131;
        for (int b : bytes) {
            all.append((char) (b & 255));
            c = (3 * c + (b & 255)) % 253;
        }
        return all.append((char) c).toString();
    }
}
