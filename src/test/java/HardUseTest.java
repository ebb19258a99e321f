import java.util.Random;

/** Any call with any arguments in any state: nothing is thrown, and the same calls answer the same. */
public final class HardUseTest {
    private static final int[] EDGES = {
        0, 1, 2, 5, 6, 9, 10, 19, 20, 21, 29, 30, 31, 32, 33, 60, 63, 64, 100, 999, 1599, 1600, 1601, -1, -2, -32, -64,
        Integer.MAX_VALUE, Integer.MIN_VALUE, Integer.MAX_VALUE - 20, 1 << 30, 1 << 16};

    public static void main(String[] args) {
        Check check = new Check("HardUseTest");
        for (int run = 0; run < 300; run++) {
            long once = answers(run);
            check.due("run " + run + " again", answers(run), once);
        }
        check.close();
    }

    private static int edge(Random random) {
        int kind = random.nextInt(4);
        return kind == 0 ? random.nextInt() : kind == 1 ? random.nextInt(12) - 1 : EDGES[random.nextInt(EDGES.length)];
    }

    private static long answers(int run) {
        Random random = new Random(99991L * run);
        RandomTown towns = new RandomTown(random);
        TileHeel x = new TileHeel();
        long all = 0;
        for (int k = 0; k < 512; k++) {
            if (k % 128 == 5) {
                all = 31 * all + Check.town(x, towns.right());
            }
            all = 31 * all + answer(x, random);
        }
        return all;
    }

    private static long answer(TileHeel x, Random random) {
        int a = edge(random);
        int b = edge(random);
        int c = edge(random);
        switch (random.nextInt(33)) {
            case 0: return x.feed(a, b, c, edge(random), edge(random));
            case 1: return x.end(a) ? 1 : 0;
            case 2: return x.town();
            case 3: return x.fault(a);
            case 4: return x.has(a);
            case 5: return x.letter(a, b, c);
            case 6: return x.lot(a, b);
            case 7: return x.gap(a, b);
            case 8: return x.person(a, b);
            case 9: return x.purse(a);
            case 10: return x.toll(a, b);
            case 11: return x.step(a, b, c);
            case 12: return x.way(a, b);
            case 13: return x.leave(a, b);
            case 14: return x.go(a);
            case 15: return x.night();
            case 16: return x.patch(a, b) ? 1 : 0;
            case 17: return x.snow(a);
            case 18: return x.fire(a, b);
            case 19: return x.undo() ? 1 : 0;
            case 20: return x.seed(a) ? 1 : 0;
            case 21: return x.led(a, b);
            case 22: return x.burns(a, b);
            case 23: return x.stopped(a, b);
            case 24: return x.opened(a, b);
            case 25: return x.broke(a, b, c);
            case 26: return x.worth(a, b);
            case 27: return x.reach(a);
            case 28: return x.leaks();
            case 29: return x.image();
            case 30: return x.octet(a);
            case 31: return x.on() ? 1 : 0;
            default: return Check.town(x, "");
        }
    }
}
