import java.util.ArrayDeque;
import java.util.ArrayList;
import java.util.Arrays;
import java.util.Deque;
import java.util.HashSet;
import java.util.List;
import java.util.Set;

/**
 * The document read a second time, in the slowest and plainest way: every simple path is walked,
 * every set of lots is tried on a copy of the town. OracleTest holds it against the class.
 */
final class Oracle {
    static final int NONE = -1;
    static final int NOTHING = -1000000000;
    private static final Set<String> OWN = new HashSet<>(Arrays.asList(
        "owner", "lot", "of", "height", "tiles", "inn", "beds", "stork", "gap", "wide", "person", "weight",
        "leap", "climb", "heel", "at", "to", "toll", "bar", "when", "carry", "rain", "night", "or", "and",
        "not", "all", "min", "max"));

    private static final class Fault extends RuntimeException {
        private static final long serialVersionUID = 1L;
        final int what;
        final int place;

        Fault(int what, int place) {
            this.what = what;
            this.place = place;
        }
    }

    private static final class Scene {
        long weight;
        long heel;
        long height;
        long tiles;
        long night;
    }

    private interface Sum {
        long of(Scene scene);
    }

    private interface Test {
        boolean of(Scene scene);
    }

    private static final class Lot {
        String name;
        int owner;
        int height;
        int tiles;
        int beds;
        boolean stork;
    }

    private static final class Person {
        String name;
        int weight;
        int leap;
        int climb;
        int heel;
        int at;
        int to;
    }

    private static final class Law {
        int owner;
        Sum sum;
        Test test;
    }

    private static final class Town {
        final List<String> owners = new ArrayList<>();
        final List<Lot> lots = new ArrayList<>();
        final List<int[]> gaps = new ArrayList<>();
        final List<Person> persons = new ArrayList<>();
        final List<Law> laws = new ArrayList<>();
        int carry = 5;
        int rain = 0;
    }

    private static final class State {
        int night;
        int snow;
        int[] tiles = new int[0];
        int[] at = new int[0];
        int[] to = new int[0];
        int[] purse = new int[0];
        List<int[]> led = new ArrayList<>();

        State copy() {
            State s = new State();
            s.night = night;
            s.snow = snow;
            s.tiles = tiles.clone();
            s.at = at.clone();
            s.to = to.clone();
            s.purse = purse.clone();
            s.led = new ArrayList<>(led);
            return s;
        }
    }

    private StringBuilder tape = new StringBuilder();
    private Town town = new Town();
    private State state = new State();
    private final Deque<State> past = new ArrayDeque<>();
    private long seed = 1;
    private int faulty = 0;
    private int faultPlace = NONE;
    private int[] image = new int[0];

    // ---- the tape

    int feed(int a, int b, int c, int d, int e) {
        if (tape.length() > 1580) {
            return NONE;
        }
        for (int n : new int[] {a, b, c, d, e}) {
            tape.append((char) (n >>> 24 & 255)).append((char) (n >>> 16 & 255));
            tape.append((char) (n >>> 8 & 255)).append((char) (n & 255));
        }
        return tape.length();
    }

    boolean end(int n) {
        if (n < 0 || n > tape.length()) {
            return false;
        }
        tape.setLength(n);
        return true;
    }

    // ---- the text

    private final class Parser {
        final String s;
        int i = 0;
        final Town t = new Town();

        Parser(String s) {
            this.s = s;
        }

        boolean low(int k) {
            return k >= 0 && k < s.length() && s.charAt(k) >= 'a' && s.charAt(k) <= 'z';
        }

        boolean digit(int k) {
            return k >= 0 && k < s.length() && s.charAt(k) >= '0' && s.charAt(k) <= '9';
        }

        /** The whole token at i (behind blanks), "" at the end; a bad neighbour makes it "?". */
        String token() {
            while (i < s.length() && (s.charAt(i) == 32 || s.charAt(i) == 10)) {
                i++;
            }
            if (i == s.length()) {
                return "";
            }
            int k = i;
            while (low(i) && low(k)) {
                k++;
            }
            while (digit(i) && digit(k)) {
                k++;
            }
            if (k > i && (low(i - 1) || digit(i - 1))) {
                return "?";
            }
            return k > i ? s.substring(i, k) : s.substring(i, i + 1);
        }

        Fault bad() {
            return new Fault(1, i);
        }

        void want(String what) {
            if (!token().equals(what)) {
                throw bad();
            }
            i += what.length();
        }

        boolean sees(String what) {
            return token().equals(what);
        }

        int number(int low, int high) {
            String token = token();
            if (token.isEmpty() || !Character.isDigit(token.charAt(0))) {
                throw bad();
            }
            if (token.length() > 4) {
                throw new Fault(1, i + 4);
            }
            int n = Integer.parseInt(token);
            if (n < low || n > high) {
                throw new Fault(2, i);
            }
            i += token.length();
            return n;
        }

        String name() {
            String token = token();
            if (token.isEmpty() || token.charAt(0) < 'a' || token.charAt(0) > 'z' || OWN.contains(token)) {
                throw bad();
            }
            if (token.length() > 6) {
                throw new Fault(1, i + 6);
            }
            return token;
        }

        int owner(String name) {
            return t.owners.indexOf(name);
        }

        int lot(String name) {
            for (int k = 0; k < t.lots.size(); k++) {
                if (t.lots.get(k).name.equals(name)) {
                    return k;
                }
            }
            return -1;
        }

        String freshName() {
            String name = name();
            boolean there = owner(name) >= 0 || lot(name) >= 0;
            for (Person p : t.persons) {
                there |= p.name.equals(name);
            }
            if (there) {
                throw new Fault(3, i);
            }
            i += name.length();
            return name;
        }

        int anOwner() {
            String name = name();
            if (owner(name) < 0) {
                throw new Fault(3, i);
            }
            i += name.length();
            return owner(name);
        }

        int aLot() {
            String name = name();
            if (lot(name) < 0) {
                throw new Fault(3, i);
            }
            i += name.length();
            return lot(name);
        }

        int all() {
            int count = 0;
            while (!sees("")) {
                if (count == 80) {
                    throw new Fault(5, i);
                }
                statement();
                want(";");
                count++;
            }
            return count;
        }

        void most(int have, int most) {
            if (have == most) {
                throw new Fault(5, i);
            }
        }

        void statement() {
            String word = token();
            switch (word) {
                case "owner" -> most(t.owners.size(), 5);
                case "lot" -> most(t.lots.size(), 10);
                case "gap" -> most(t.gaps.size(), 20);
                case "person" -> most(t.persons.size(), 6);
                case "toll", "bar" -> most(t.laws.size(), 8);
                case "inn", "stork", "carry", "rain" -> { }
                default -> throw bad();
            }
            i += word.length();
            switch (word) {
                case "owner" -> t.owners.add(freshName());
                case "lot" -> lotStatement();
                case "gap" -> gapStatement();
                case "person" -> personStatement();
                case "toll", "bar" -> law(word.equals("toll"));
                case "inn" -> {
                    Lot lot = t.lots.get(aLot());
                    if (lot.beds > 0) {
                        throw new Fault(3, i - lot.name.length());
                    }
                    want("beds");
                    lot.beds = number(1, 9);
                }
                case "stork" -> {
                    Lot lot = t.lots.get(aLot());
                    if (lot.stork) {
                        throw new Fault(3, i - lot.name.length());
                    }
                    lot.stork = true;
                }
                case "carry" -> t.carry = number(1, 20);
                default -> t.rain = number(0, 100);
            }
        }

        void lotStatement() {
            Lot lot = new Lot();
            lot.name = freshName();
            want("of");
            lot.owner = anOwner();
            want("height");
            lot.height = number(0, 20);
            want("tiles");
            lot.tiles = number(0, 30);
            t.lots.add(lot);
        }

        void gapStatement() {
            int a = aLot();
            int b = aLot();
            boolean known = a == b;
            for (int[] g : t.gaps) {
                known |= g[0] == a && g[1] == b || g[0] == b && g[1] == a;
            }
            if (known) {
                throw new Fault(3, i - t.lots.get(b).name.length());
            }
            want("wide");
            t.gaps.add(new int[] {a, b, number(0, 9)});
        }

        void personStatement() {
            Person p = new Person();
            p.name = freshName();
            want("weight");
            p.weight = number(1, 99);
            want("leap");
            p.leap = number(0, 9);
            want("climb");
            p.climb = number(0, 20);
            want("heel");
            p.heel = number(0, 9);
            want("at");
            p.at = aLot();
            want("to");
            p.to = aLot();
            if (p.at == p.to) {
                throw new Fault(3, i - t.lots.get(p.to).name.length());
            }
            t.persons.add(p);
        }

        void law(boolean toll) {
            Law law = new Law();
            law.owner = anOwner();
            if (toll) {
                law.sum = sum(0);
            }
            want("when");
            law.test = test(0);
            t.laws.add(law);
        }

        Test test(int open) {
            Test left = both(open);
            while (sees("or")) {
                want("or");
                Test one = left;
                Test other = both(open);
                left = scene -> one.of(scene) || other.of(scene);
            }
            return left;
        }

        Test both(int open) {
            Test left = fact(open);
            while (sees("and")) {
                want("and");
                Test one = left;
                Test other = fact(open);
                left = scene -> one.of(scene) && other.of(scene);
            }
            return left;
        }

        int opening(String what, int open) {
            if (!sees(what)) {
                throw bad();
            }
            if (open == 6) {
                throw new Fault(4, i);
            }
            i += what.length();
            return open + 1;
        }

        Test fact(int open) {
            if (sees("not")) {
                Test inner = fact(opening("not", open));
                return scene -> !inner.of(scene);
            }
            if (sees("[")) {
                Test inner = test(opening("[", open));
                want("]");
                return inner;
            }
            if (sees("all")) {
                want("all");
                return scene -> true;
            }
            Sum left = sum(open);
            String sign = token();
            if (!sign.equals("<") && !sign.equals(">") && !sign.equals("=")) {
                throw bad();
            }
            want(sign);
            Sum right = sum(open);
            return scene -> {
                int c = Long.compare(left.of(scene), right.of(scene));
                return sign.equals("<") ? c < 0 : sign.equals(">") ? c > 0 : c == 0;
            };
        }

        Sum sum(int open) {
            Sum left = product(open);
            while (sees("+") || sees("-")) {
                Sum one = left;
                int by = sees("+") ? 1 : -1;
                i++;
                Sum other = product(open);
                left = scene -> cut(one.of(scene) + by * other.of(scene));
            }
            return left;
        }

        Sum product(int open) {
            Sum left = part(open);
            while (sees("*") || sees("/")) {
                Sum one = left;
                boolean times = sees("*");
                i++;
                Sum other = part(open);
                left = scene -> times ? cut(one.of(scene) * other.of(scene)) : quotient(one.of(scene), other.of(scene));
            }
            return left;
        }

        Sum part(int open) {
            String token = token();
            switch (token) {
                case "weight": i += 6; return scene -> scene.weight;
                case "heel": i += 4; return scene -> scene.heel;
                case "height": i += 6; return scene -> scene.height;
                case "tiles": i += 5; return scene -> scene.tiles;
                case "night": i += 5; return scene -> scene.night;
                case "(": {
                    Sum inner = sum(opening("(", open));
                    want(")");
                    return inner;
                }
                case "min":
                case "max": {
                    i += 3;
                    int inside = opening("(", open);
                    Sum one = sum(inside);
                    want(",");
                    Sum other = sum(inside);
                    want(")");
                    return scene -> token.equals("min") ? Math.min(one.of(scene), other.of(scene))
                        : Math.max(one.of(scene), other.of(scene));
                }
                default: {
                    int n = number(0, 9999);
                    return scene -> n;
                }
            }
        }
    }

    private static long cut(long n) {
        return n > 1000000 ? 1000000 : n < -1000000 ? -1000000 : n;
    }

    private static long quotient(long a, long b) {
        if (b == 0) {
            return 0;
        }
        long q = (long) Math.floor((double) a / (double) b);
        while (b > 0 ? q * b > a : q * b < a) {
            q--;
        }
        while (b > 0 ? (q + 1) * b <= a : (q + 1) * b >= a) {
            q++;
        }
        return q;
    }

    int town() {
        Parser parser = new Parser(tape.toString());
        tape.setLength(0);
        int count;
        try {
            count = parser.all();
        } catch (Fault f) {
            faulty = f.what;
            faultPlace = f.place;
            return NONE;
        }
        faulty = 0;
        faultPlace = NONE;
        town = parser.t;
        state = new State();
        state.tiles = town.lots.stream().mapToInt(lot -> lot.tiles).toArray();
        state.at = town.persons.stream().mapToInt(p -> p.at).toArray();
        state.to = town.persons.stream().mapToInt(p -> p.to).toArray();
        state.purse = new int[town.owners.size()];
        past.clear();
        return count;
    }

    int fault(int what) {
        return what == 0 ? faulty : what == 1 ? faultPlace : NONE;
    }

    // ---- what there is

    boolean isLot(int lot) {
        return lot >= 0 && lot < town.lots.size();
    }

    boolean isPerson(int p) {
        return p >= 0 && p < town.persons.size();
    }

    int has(int what) {
        switch (what) {
            case 0: return town.owners.size();
            case 1: return town.lots.size();
            case 2: return town.gaps.size();
            case 3: return town.persons.size();
            case 4: return town.laws.size();
            case 5: return town.carry;
            case 6: return town.rain;
            case 7: return state.night;
            case 8: return state.snow;
            case 9: return Arrays.stream(state.tiles).sum();
            case 10: return (int) Arrays.stream(state.tiles).filter(n -> n == 0).count();
            case 11: return state.led.size();
            case 12: return past.size();
            default: return NONE;
        }
    }

    int letter(int kind, int which, int k) {
        List<String> names = new ArrayList<>();
        if (kind == 0) {
            names = town.owners;
        } else if (kind == 1) {
            for (Lot lot : town.lots) {
                names.add(lot.name);
            }
        } else if (kind == 2) {
            for (Person p : town.persons) {
                names.add(p.name);
            }
        }
        if (which < 0 || which >= names.size() || k < 0 || k > 5) {
            return NONE;
        }
        String name = names.get(which);
        return k < name.length() ? name.charAt(k) - 'a' + 1 : 0;
    }

    int lot(int lot, int what) {
        if (!isLot(lot)) {
            return NONE;
        }
        Lot it = town.lots.get(lot);
        int there = (int) Arrays.stream(state.at).filter(at -> at == lot).count();
        switch (what) {
            case 0: return it.owner;
            case 1: return it.height;
            case 2: return state.tiles[lot];
            case 3: return it.beds;
            case 4: return it.stork ? 1 : 0;
            case 5: return there;
            case 6: return it.beds > 0 && there >= it.beds ? 1 : 0;
            default: return NONE;
        }
    }

    int gap(int a, int b) {
        for (int[] g : town.gaps) {
            if (g[0] == a && g[1] == b || g[0] == b && g[1] == a) {
                return g[2];
            }
        }
        return NONE;
    }

    int person(int person, int what) {
        if (!isPerson(person)) {
            return NONE;
        }
        Person p = town.persons.get(person);
        switch (what) {
            case 0: return p.weight;
            case 1: return p.leap;
            case 2: return p.climb;
            case 3: return p.heel;
            case 4: return state.at[person];
            case 5: return state.to[person];
            case 6: return (int) state.led.stream().filter(l -> l[2] == person).count();
            default: return NONE;
        }
    }

    int purse(int owner) {
        return owner >= 0 && owner < town.owners.size() ? state.purse[owner] : NOTHING;
    }

    // ---- ways

    private int tollIn(State s, int person, int lot) {
        if (s.snow > 0) {
            return 0;
        }
        Scene scene = new Scene();
        scene.weight = town.persons.get(person).weight;
        scene.heel = town.persons.get(person).heel;
        scene.height = town.lots.get(lot).height;
        scene.tiles = s.tiles[lot];
        scene.night = s.night;
        int owner = town.lots.get(lot).owner;
        for (Law law : town.laws) {
            if (law.owner == owner && law.sum == null && law.test.of(scene)) {
                return NONE;
            }
        }
        for (Law law : town.laws) {
            if (law.owner == owner && law.sum != null && law.test.of(scene)) {
                long sum = law.sum.of(scene);
                return (int) (sum < 0 ? 0 : sum > 999 ? 999 : sum);
            }
        }
        return 0;
    }

    int toll(int person, int lot) {
        return isPerson(person) && isLot(lot) ? tollIn(state, person, lot) : -2;
    }

    /** owners: by whose leave, as bits; cutA, cutB: a gap that is not there. */
    private boolean stepIn(State s, int person, int a, int b, int owners, int cutA, int cutB) {
        int wide = gap(a, b);
        if (wide == NONE || a == cutA && b == cutB || a == cutB && b == cutA) {
            return false;
        }
        Person p = town.persons.get(person);
        return wide - s.snow <= p.leap && town.lots.get(b).height - town.lots.get(a).height <= p.climb
            && s.tiles[b] > 0 && tollIn(s, person, b) != NONE && (owners >> town.lots.get(b).owner & 1) == 1;
    }

    int step(int person, int a, int b) {
        if (!isPerson(person) || !isLot(a) || !isLot(b)) {
            return NONE;
        }
        return stepIn(state, person, a, b, -1, NONE, NONE) ? 1 : 0;
    }

    /** Coins first, then the lots; null without a way. */
    private List<Integer> best;
    private int bestCoins;

    private List<Integer> wayIn(State s, int person, int owners, int cutA, int cutB) {
        best = null;
        boolean[][] steps = new boolean[town.lots.size()][town.lots.size()];
        int[] tolls = new int[town.lots.size()];
        for (int a = 0; a < town.lots.size(); a++) {
            tolls[a] = tollIn(s, person, a);
            for (int b = 0; b < town.lots.size(); b++) {
                steps[a][b] = stepIn(s, person, a, b, owners, cutA, cutB);
            }
        }
        List<Integer> path = new ArrayList<>();
        path.add(s.at[person]);
        walkAll(steps, tolls, s.to[person], path, 0);
        return best;
    }

    private void walkAll(boolean[][] steps, int[] tolls, int goal, List<Integer> path, int coins) {
        int here = path.get(path.size() - 1);
        if (here == goal) {
            List<Integer> lots = new ArrayList<>(path.subList(1, path.size()));
            if (best == null || coins < bestCoins || coins == bestCoins && ahead(lots, best)) {
                best = lots;
                bestCoins = coins;
            }
            return;
        }
        for (int b = 0; b < steps.length; b++) {
            if (steps[here][b] && !path.contains(b)) {
                path.add(b);
                walkAll(steps, tolls, goal, path, coins + tolls[b]);
                path.remove(path.size() - 1);
            }
        }
    }

    private static boolean ahead(List<Integer> a, List<Integer> b) {
        if (a.size() != b.size()) {
            return a.size() < b.size();
        }
        for (int k = 0; k < a.size(); k++) {
            if (!a.get(k).equals(b.get(k))) {
                return a.get(k) < b.get(k);
            }
        }
        return false;
    }

    int way(int person, int k) {
        if (!isPerson(person)) {
            return NONE;
        }
        List<Integer> lots = wayIn(state, person, -1, NONE, NONE);
        if (lots == null) {
            return NONE;
        }
        if (k == NONE) {
            return bestCoins;
        }
        return k == 20 ? lots.size() : k >= 0 && k < lots.size() ? lots.get(k) : NONE;
    }

    int leave(int person, int what) {
        if (!isPerson(person) || what < 0 || what > 1) {
            return NONE;
        }
        for (int size = 0; size <= 5; size++) {
            for (int owners = 0; owners < 32; owners++) {
                if (Integer.bitCount(owners) == size && owners < 1 << town.owners.size()
                    && wayIn(state, person, owners, NONE, NONE) != null) {
                    return what == 0 ? size : owners;
                }
            }
        }
        return NONE;
    }

    // ---- acts

    private void remember() {
        past.addLast(state.copy());
        if (past.size() > 20) {
            past.removeFirst();
        }
    }

    /** {coins, broken}, null without a way. */
    private int[] goes(int person) {
        List<Integer> lots = wayIn(state, person, -1, NONE, NONE);
        if (lots == null) {
            return null;
        }
        int coins = bestCoins;
        int broken = 0;
        State ahead = state.copy();
        for (int lot : lots) {
            state.purse[town.lots.get(lot).owner] += tollIn(ahead, person, lot);
            if (town.persons.get(person).weight > town.carry * state.tiles[lot]) {
                state.tiles[lot]--;
                broken++;
                state.led.add(new int[] {state.night, lot, person});
                if (state.led.size() > 60) {
                    state.led.remove(0);
                }
            }
        }
        int from = state.at[person];
        state.at[person] = state.to[person];
        state.to[person] = from;
        return new int[] {coins, broken};
    }

    int go(int person) {
        if (way(person, NONE) == NONE) {
            return NONE;
        }
        remember();
        return goes(person)[0];
    }

    int night() {
        if (state.night == 999) {
            return NONE;
        }
        remember();
        int broken = 0;
        for (int p = 0; p < town.persons.size(); p++) {
            int[] gone = goes(p);
            broken += gone == null ? 0 : gone[1];
        }
        seed = (1103515245L * seed + 12345L) % (1L << 31);
        if (seed / 64 % 100 < town.rain) {
            for (int lot = 0; lot < town.lots.size(); lot++) {
                if (state.tiles[lot] < 3) {
                    state.purse[town.lots.get(lot).owner] -= 1;
                }
            }
        }
        state.night++;
        return broken;
    }

    boolean patch(int from, int to) {
        if (!isLot(from) || !isLot(to) || from == to || town.lots.get(from).stork || state.tiles[from] == 0
            || state.tiles[to] == 30) {
            return false;
        }
        remember();
        state.tiles[from]--;
        state.tiles[to]++;
        return true;
    }

    int snow(int n) {
        if (n < 0 || n > 9) {
            return NONE;
        }
        remember();
        int was = state.snow;
        state.snow = n;
        return was;
    }

    int fire(int lot, int n) {
        int bits = burns(lot, n);
        if (bits == NONE) {
            return NONE;
        }
        remember();
        int gone = 0;
        for (int k = 0; k < town.lots.size(); k++) {
            if ((bits >> k & 1) == 1) {
                gone += state.tiles[k];
                state.tiles[k] = 0;
            }
        }
        return gone;
    }

    boolean undo() {
        if (past.isEmpty()) {
            return false;
        }
        state = past.removeLast();
        return true;
    }

    boolean seed(int n) {
        if (n < 0) {
            return false;
        }
        seed = n;
        return true;
    }

    int led(int k, int what) {
        return k >= 0 && k < state.led.size() && what >= 0 && what < 3 ? state.led.get(k)[what] : NONE;
    }

    // ---- what would be

    int burns(int lot, int n) {
        if (!isLot(lot) || n < 0 || n > 20 || state.tiles[lot] == 0) {
            return NONE;
        }
        Set<Integer> on = new HashSet<>();
        on.add(lot);
        for (int minute = 0; minute < n; minute++) {
            Set<Integer> more = new HashSet<>(on);
            for (int[] g : town.gaps) {
                if (g[2] <= 1) {
                    for (int side = 0; side < 2; side++) {
                        if (on.contains(g[side]) && state.tiles[g[1 - side]] > 0) {
                            more.add(g[1 - side]);
                        }
                    }
                }
            }
            on = more;
        }
        int bits = 0;
        for (int k : on) {
            bits |= 1 << k;
        }
        return bits;
    }

    int stopped(int person, int what) {
        if (!isPerson(person) || what < 0 || what > 1) {
            return NONE;
        }
        int bits = NONE;
        int fewest = Integer.MAX_VALUE;
        for (int set = 0; set < 1 << town.lots.size(); set++) {
            State s = state.copy();
            int tiles = 0;
            boolean may = true;
            for (int lot = 0; lot < town.lots.size(); lot++) {
                if ((set >> lot & 1) == 1) {
                    may &= lot != s.at[person] && lot != s.to[person] && !town.lots.get(lot).stork;
                    tiles += s.tiles[lot];
                    s.tiles[lot] = 0;
                }
            }
            if (may && tiles < fewest && wayIn(s, person, -1, NONE, NONE) == null) {
                fewest = tiles;
                bits = set;
            }
        }
        return bits == NONE ? NONE : what == 0 ? fewest : bits;
    }

    int opened(int person, int what) {
        if (!isPerson(person) || what < 0 || what > 1) {
            return NONE;
        }
        int bits = NONE;
        for (int set = 0; set < 1 << town.lots.size(); set++) {
            State s = state.copy();
            boolean may = true;
            for (int lot = 0; lot < town.lots.size(); lot++) {
                if ((set >> lot & 1) == 1) {
                    may &= s.tiles[lot] == 0;
                    s.tiles[lot] = 1;
                }
            }
            if (may && (bits == NONE || Integer.bitCount(set) < Integer.bitCount(bits))
                && wayIn(s, person, -1, NONE, NONE) != null) {
                bits = set;
            }
        }
        return bits == NONE ? NONE : what == 0 ? Integer.bitCount(bits) : bits;
    }

    int broke(int lot, int heel, int k) {
        if (!isLot(lot) || heel < 0 || heel > 9 || k != NONE && k != 20 && !isPerson(k)) {
            return NONE;
        }
        List<Integer> who = new ArrayList<>();
        int bits = 0;
        for (int p = 0; p < town.persons.size(); p++) {
            List<Integer> way = wayIn(state, p, -1, NONE, NONE);
            if (town.persons.get(p).heel == heel && way != null && way.contains(lot)
                && town.persons.get(p).weight > town.carry * state.tiles[lot]) {
                who.add(p);
                bits |= 1 << p;
            }
        }
        return k == NONE ? who.size() : k == 20 ? bits : who.contains(k) ? 1000 / who.size() : 0;
    }

    int worth(int a, int b) {
        if (!isLot(a) || !isLot(b) || gap(a, b) == NONE) {
            return NOTHING;
        }
        int with = 0;
        int without = 0;
        for (int p = 0; p < town.persons.size(); p++) {
            with += wayIn(state, p, -1, NONE, NONE) == null ? 1000 : bestCoins;
            without += wayIn(state, p, -1, a, b) == null ? 1000 : bestCoins;
        }
        return without - with;
    }

    int reach(int person) {
        if (!isPerson(person)) {
            return NONE;
        }
        int bits = 0;
        for (int lot = 0; lot < town.lots.size(); lot++) {
            State s = state.copy();
            s.to[person] = lot;
            if (lot == s.at[person] || wayIn(s, person, -1, NONE, NONE) != null) {
                bits |= 1 << lot;
            }
        }
        return bits;
    }

    int leaks() {
        int bits = 0;
        for (int lot = 0; lot < town.lots.size(); lot++) {
            bits |= state.tiles[lot] < 3 ? 1 << lot : 0;
        }
        return bits;
    }

    // ---- images

    int image() {
        List<Integer> bytes = new ArrayList<>(List.of(state.night / 256, state.night % 256, state.snow));
        for (int n : state.tiles) {
            bytes.add(n);
        }
        for (int p = 0; p < town.persons.size(); p++) {
            bytes.add(state.at[p]);
            bytes.add(state.to[p]);
        }
        for (int purse : state.purse) {
            for (int shift = 24; shift >= 0; shift -= 8) {
                bytes.add(purse >>> shift & 255);
            }
        }
        int c = 131;
        for (int b : bytes) {
            c = (3 * c + b) % 253;
        }
        bytes.add(c);
        image = bytes.stream().mapToInt(b -> b).toArray();
        return image.length;
    }

    int octet(int k) {
        return k >= 0 && k < image.length ? image[k] : NONE;
    }

    boolean on() {
        String bytes = tape.toString();
        tape.setLength(0);
        int persons = town.persons.size();
        if (bytes.length() != 4 + town.lots.size() + 2 * persons + 4 * town.owners.size()) {
            return false;
        }
        int c = 131;
        for (int k = 0; k < bytes.length() - 1; k++) {
            c = (3 * c + bytes.charAt(k)) % 253;
        }
        State s = state.copy();
        s.led.clear();
        s.night = bytes.charAt(0) * 256 + bytes.charAt(1);
        s.snow = bytes.charAt(2);
        boolean is = c == bytes.charAt(bytes.length() - 1) && s.night <= 999 && s.snow <= 9;
        int k = 3;
        for (int lot = 0; lot < town.lots.size(); lot++) {
            s.tiles[lot] = bytes.charAt(k++);
            is &= s.tiles[lot] <= 30;
        }
        for (int p = 0; p < persons; p++) {
            s.at[p] = bytes.charAt(k++);
            s.to[p] = bytes.charAt(k++);
            Set<Integer> two = Set.of(town.persons.get(p).at, town.persons.get(p).to);
            is &= s.at[p] != s.to[p] && two.contains(s.at[p]) && two.contains(s.to[p]);
        }
        for (int owner = 0; owner < town.owners.size(); owner++) {
            s.purse[owner] = 0;
            for (int b = 0; b < 4; b++) {
                s.purse[owner] = s.purse[owner] * 256 + bytes.charAt(k++);
            }
        }
        if (is) {
            state = s;
            past.clear();
        }
        return is;
    }
}
