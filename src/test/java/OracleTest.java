import java.util.Random;

/** Random calls on random towns: the class has to answer what the oracle answers. */
public final class OracleTest {
    private static final int CALLS = 480;
    private final Check check;
    private final Random random;
    private final RandomTown towns;
    private final TileHeel x = new TileHeel();
    private final Oracle y = new Oracle();
    private final StringBuilder run = new StringBuilder();
    private int calls;

    private OracleTest(Check check, long seed) {
        this.check = check;
        random = new Random(seed);
        towns = new RandomTown(random);
    }

    public static void main(String[] args) {
        int runs = args.length > 0 ? Integer.parseInt(args[0]) : 3000;
        int first = args.length > 1 ? Integer.parseInt(args[1]) : 0;
        Check check = new Check("OracleTest");
        for (int k = first; k < first + runs && check.wrongs() == 0; k++) {
            OracleTest one = new OracleTest(check, 77777L * k + 5);
            one.go();
            if (check.wrongs() > 0) {
                System.out.println("run " + k + ":\n" + one.run);
            }
        }
        check.close();
    }

    private void go() {
        tellTown();
        while (calls < CALLS && check.wrongs() == 0) {
            int what = random.nextInt(100);
            if (what < 3) {
                tellTown();
            } else if (what < 5) {
                tellImage();
            } else if (what < 60) {
                ask();
            } else {
                act();
            }
        }
    }

    private void same(String call, long got, long want) {
        calls++;
        run.append(call).append(" = ").append(want).append('\n');
        check.due(call, got, want);
    }

    private void same(String call, boolean got, boolean want) {
        same(call, got ? 1 : 0, want ? 1 : 0);
    }

    private void feed(String bytes) {
        run.append("text ").append(bytes).append('\n');
        for (int from = 0; from < bytes.length(); from += 20) {
            int[] n = new int[5];
            for (int k = 0; k < 20; k++) {
                n[k / 4] = n[k / 4] << 8 | (from + k < bytes.length() ? bytes.charAt(from + k) & 255 : 32);
            }
            same("feed", x.feed(n[0], n[1], n[2], n[3], n[4]), y.feed(n[0], n[1], n[2], n[3], n[4]));
        }
        same("end", x.end(bytes.length()), y.end(bytes.length()));
    }

    private void tellTown() {
        int kind = random.nextInt(20);
        String text = kind < 8 ? towns.right() : kind < 12 ? towns.spoiledTokens() : kind < 17 ? towns.spoiledBytes()
            : kind < 18 ? towns.many() : towns.deep();
        feed(text);
        same("town", x.town(), y.town());
        same("fault(0)", x.fault(0), y.fault(0));
        same("fault(1)", x.fault(1), y.fault(1));
        for (int what = -1; what < 14; what++) {
            same("has(" + what + ")", x.has(what), y.has(what));
        }
    }

    private void tellImage() {
        int length = x.image();
        same("image", length, y.image());
        int[] bytes = new int[length - 1];
        for (int k = 0; k < length - 1; k++) {
            bytes[k] = x.octet(k);
            same("octet", bytes[k], y.octet(k));
        }
        same("octet", x.octet(length - 1), y.octet(length - 1));
        for (int k = random.nextInt(3); k > 0; k--) {
            int at = random.nextInt(bytes.length);
            bytes[at] = random.nextInt(4) == 0 ? random.nextInt(256) : random.nextInt(12);
        }
        StringBuilder image = new StringBuilder(Check.image(bytes));
        if (random.nextInt(8) == 0) {
            image.setCharAt(random.nextInt(image.length()), (char) random.nextInt(256));
        }
        if (random.nextInt(12) == 0) {
            image.setLength(random.nextInt(image.length()));
        }
        feed(image.toString());
        same("on", x.on(), y.on());
    }

    private int any(int count) {
        int kind = random.nextInt(40);
        if (kind == 0) {
            return new int[] {-1, count, 20, 21, Integer.MAX_VALUE, Integer.MIN_VALUE, 31, 32}[random.nextInt(8)];
        }
        return kind == 1 || count < 1 ? random.nextInt(14) - 2 : random.nextInt(count);
    }

    private int aPerson() {
        return any(y.has(3));
    }

    private int aLot() {
        return any(y.has(1));
    }

    private void ask() {
        int p = aPerson();
        int l = aLot();
        int m = aLot();
        int k = any(8);
        String with = "(" + p + "," + l + "," + m + "," + k + ")";
        switch (random.nextInt(22)) {
            case 0: same("has" + with, x.has(k), y.has(k)); break;
            case 1: same("letter" + with, x.letter(k, p, m), y.letter(k, p, m)); break;
            case 2: same("lot" + with, x.lot(l, k), y.lot(l, k)); break;
            case 3: same("gap" + with, x.gap(l, m), y.gap(l, m)); break;
            case 4: same("person" + with, x.person(p, k), y.person(p, k)); break;
            case 5: same("purse" + with, x.purse(k), y.purse(k)); break;
            case 6: same("toll" + with, x.toll(p, l), y.toll(p, l)); break;
            case 7: same("step" + with, x.step(p, l, m), y.step(p, l, m)); break;
            case 8: same("way coins" + with, x.way(p, -1), y.way(p, -1)); break;
            case 9: same("way steps" + with, x.way(p, 20), y.way(p, 20)); break;
            case 10: same("way" + with, x.way(p, k), y.way(p, k)); break;
            case 11: same("leave" + with, x.leave(p, k & 1), y.leave(p, k & 1)); break;
            case 12: askLed(any(y.has(11)), k); break;
            case 13: same("burns" + with, x.burns(l, k), y.burns(l, k)); break;
            case 14: askDear(p, k); break;
            case 15: same("broke" + with, x.broke(l, k, p), y.broke(l, k, p)); break;
            case 16: same("broke" + with, x.broke(l, k, 20), y.broke(l, k, 20)); break;
            case 17: same("broke" + with, x.broke(l, k, -1), y.broke(l, k, -1)); break;
            case 18: same("worth" + with, x.worth(l, m), y.worth(l, m)); break;
            case 19: same("reach" + with, x.reach(p), y.reach(p)); break;
            case 20: same("leaks" + with, x.leaks(), y.leaks()); break;
            default: same("octet" + with, x.octet(k), y.octet(k));
        }
    }

    private void askLed(int k, int what) {
        same("led(" + k + "," + what + ")", x.led(k, what), y.led(k, what));
    }

    /** These try all sets of lots in the oracle, so they come more seldom in large towns. */
    private void askDear(int p, int k) {
        if (y.has(1) > 8 && random.nextInt(8) > 0) {
            return;
        }
        same("stopped " + p, x.stopped(p, 1), y.stopped(p, 1));
        same("opened " + p, x.opened(p, 1), y.opened(p, 1));
        same("stopped " + p + "," + k, x.stopped(p, k), y.stopped(p, k));
        same("opened " + p + "," + k, x.opened(p, k), y.opened(p, k));
    }

    private void act() {
        int p = aPerson();
        int l = aLot();
        int m = aLot();
        int k = any(10);
        String with = "(" + p + "," + l + "," + m + "," + k + ")";
        switch (random.nextInt(20)) {
            case 0: same("snow" + with, x.snow(k), y.snow(k)); break;
            case 1: same("snow 0", x.snow(0), y.snow(0)); break;
            case 2: same("fire" + with, x.fire(l, k), y.fire(l, k)); break;
            case 3: same("seed" + with, x.seed(k * 1000003), y.seed(k * 1000003)); break;
            case 4:
            case 5:
            case 6: same("undo", x.undo(), y.undo()); break;
            case 7:
            case 8:
            case 9:
            case 10: same("go" + with, x.go(p), y.go(p)); break;
            case 11:
            case 12:
            case 13:
            case 14: same("night", x.night(), y.night()); break;
            default: same("patch" + with, x.patch(l, m), y.patch(l, m));
        }
        if (random.nextInt(4) == 0) {
            compareAll();
        }
    }

    private void compareAll() {
        for (int k = 0; k < y.has(11); k++) {
            for (int what = 0; what < 3; what++) {
                check.due("led", x.led(k, what), y.led(k, what));
            }
        }
        for (int k = 0; k < y.has(1); k++) {
            check.due("lot", x.lot(k, 2), y.lot(k, 2));
        }
        for (int k = 0; k < y.has(0); k++) {
            check.due("purse", x.purse(k), y.purse(k));
        }
        for (int k = 0; k < y.has(3); k++) {
            check.due("person", x.person(k, 4), y.person(k, 4));
        }
        for (int what = 0; what < 14; what++) {
            check.due("has", x.has(what), y.has(what));
        }
    }
}
