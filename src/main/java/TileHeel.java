/**
 * Roofs in common: a town of lots told as a text, people who go over its roofs by night, and what
 * would be, if tiles were taken or laid. The document says what each call answers; the words in
 * comments here (LOT, HOLE, WAY ..) are its words.
 */
public final class TileHeel {
    public static final int NONE = -1;
    public static final int NOTHING = -1000000000;

    private static final int NO_SUCH_TOLL = -2;
    private static final int WHOLE = 20;

    private static final int OWNERS = 5;
    private static final int LOTS = 10;
    private static final int GAPS = 20;
    private static final int PERSONS = 6;
    private static final int LAWS = 8;
    private static final int STATEMENTS = 80;
    private static final int NAME_LETTERS = 6;
    private static final int NUMBER_DIGITS = 4;
    private static final int OPEN_AT_ONCE = 6;

    private static final int TAPE_BYTES = 1600;
    private static final int FED_BYTES = 20;
    private static final int IMAGE_BYTES = 3 + LOTS + 2 * PERSONS + 4 * OWNERS + 1;

    private static final int MOST_NUMBER = 9999;
    private static final int MOST_SEED = 2147483647;
    private static final int MOST_HEIGHT = 20;
    private static final int MOST_TILES = 30;
    private static final int MOST_BEDS = 9;
    private static final int MOST_WIDE = 9;
    private static final int MOST_WEIGHT = 99;
    private static final int MOST_LEAP = 9;
    private static final int MOST_CLIMB = 20;
    private static final int MOST_HEEL = 9;
    private static final int MOST_CARRY = 20;
    private static final int MOST_RAIN = 100;
    private static final int MOST_SNOW = 9;
    private static final int MOST_TOLL = 999;
    private static final int MOST_MINUTES = 20;
    private static final int LAST_NIGHT = 999;
    private static final int CARRY_UNTOLD = 5;
    private static final int TILES_TO_BE_TIGHT = 3;
    private static final int WIDEST_FOR_FIRE = 1;
    private static final int COINS_WITHOUT_WAY = 1000;
    private static final int LED_TOLD = 60;
    private static final int ACTS_KEPT = 20;

    /* The columns of a LOT's row and of a PERSON's bear the numbers that lot() and person() take. */
    private static final int LOT_OWNER = 0;
    private static final int LOT_HEIGHT = 1;
    private static final int LOT_TILES = 2;
    private static final int LOT_BEDS = 3;
    private static final int LOT_STORK = 4;
    private static final int LOT_GUESTS = 5;
    private static final int LOT_FULL = 6;
    private static final int WEIGHT_OF = 0;
    private static final int LEAP_OF = 1;
    private static final int CLIMB_OF = 2;
    private static final int HEEL_OF = 3;
    private static final int AT_OF = 4;
    private static final int TO_OF = 5;
    private static final int LED_OF = 6;

    private static final int LED_NIGHT = 0;
    private static final int LED_LOT = 1;
    private static final int LED_PERSON = 2;

    private static final int FAULT_TEXT = 1;
    private static final int FAULT_NUMBER = 2;
    private static final int FAULT_NAME = 3;
    private static final int FAULT_OPEN = 4;
    private static final int FAULT_MANY = 5;

    /* The numbers below are the places of the words in this line. */
    private static final String OWN_WORDS =
        "owner lot of height tiles inn beds stork gap wide person weight leap climb heel at to toll bar when carry rain night or and not all min max ";
    private static final int OWN_WORDS_COUNT = 29;
    private static final int NO_WORD = -1;
    private static final int OWNER = 0;
    private static final int LOT = 1;
    private static final int OF = 2;
    private static final int HEIGHT = 3;
    private static final int TILES = 4;
    private static final int INN = 5;
    private static final int BEDS = 6;
    private static final int STORK = 7;
    private static final int GAP = 8;
    private static final int WIDE = 9;
    private static final int PERSON = 10;
    private static final int WEIGHT = 11;
    private static final int LEAP = 12;
    private static final int CLIMB = 13;
    private static final int HEEL = 14;
    private static final int AT = 15;
    private static final int TO = 16;
    private static final int TOLL = 17;
    private static final int BAR = 18;
    private static final int WHEN = 19;
    private static final int CARRY = 20;
    private static final int RAIN = 21;
    private static final int NIGHT = 22;
    private static final int OR = 23;
    private static final int AND = 24;
    private static final int NOT = 25;
    private static final int ALL = 26;
    private static final int MIN = 27;
    private static final int MAX = 28;

    /* A LAW is kept as tokens, each behind what it joins: numbers as they are, signs, OWN WORDS. */
    private static final int SIGN_TOKEN = 10000;
    private static final int WORD_TOKEN = 10200;
    private static final int SUM_BOUND = 1000000;
    private static final int PILE = 64;

    /* COINS and STEPS ride in one number, so that fewer COINS come first, then fewer STEPS. */
    private static final int COIN = 16;
    private static final int FAR = 1000000000;

    private final int[] tape = new int[TAPE_BYTES];
    private int tapeLength;
    private final TownText text = new TownText();
    private Town told = new Town();
    private final Roofs now = new Roofs();
    private final Roofs[] past = new Roofs[ACTS_KEPT];
    private int pastNext;
    private int acts;
    private int seedNow;
    private final Walk walk = new Walk();
    private final int[] shot = new int[IMAGE_BYTES];
    private int shotLength;

    public TileHeel() {
        for (int i = 0; i < ACTS_KEPT; i++) {
            past[i] = new Roofs();
        }
        seedNow = 1;
    }

    // ---- the text

    public int feed(int a, int b, int c, int d, int e) {
        if (tapeLength + FED_BYTES > TAPE_BYTES) {
            return NONE;
        }
        feedNumber(a);
        feedNumber(b);
        feedNumber(c);
        feedNumber(d);
        feedNumber(e);
        return tapeLength;
    }

    private void feedNumber(int number) {
        for (int shift = 24; shift >= 0; shift -= 8) {
            if (tapeLength < TAPE_BYTES) {
                tape[tapeLength] = (number >>> shift) & 255;
                tapeLength++;
            }
        }
    }

    public boolean end(int n) {
        if (n < 0 || n > tapeLength) {
            return false;
        }
        tapeLength = n;
        return true;
    }

    public int town() {
        text.open(tape, tapeLength);
        tapeLength = 0;
        int statements = 0;
        for (int i = 0; i < STATEMENTS && text.goesOn(); i++) {
            text.readStatement();
            statements++;
        }
        text.close();
        if (text.faulty != 0) {
            return NONE;
        }
        told = text.handOver(told);
        now.begin(told);
        acts = 0;
        return statements;
    }

    public int fault(int what) {
        if (what == 0) {
            return text.faulty;
        }
        return what == 1 ? text.place : NONE;
    }

    // ---- what there is

    public int has(int what) {
        switch (what) {
            case 0: return told.owners;
            case 1: return told.lots;
            case 2: return told.gaps;
            case 3: return told.persons;
            case 4: return told.laws.count;
            case 5: return told.carry;
            case 6: return told.rain;
            case 7: return now.nightNumber;
            case 8: return now.snowDepth;
            case 9: return now.tilesOf(told.allLots());
            case 10: return Integer.bitCount(now.holes(told.lots));
            case 11: return now.ledCount;
            case 12: return acts;
            default: return NONE;
        }
    }

    public int letter(int kind, int which, int k) {
        if (k < 0 || k >= NAME_LETTERS) {
            return NONE;
        }
        int name = 0;
        if (kind == 0 && told.isOwner(which)) {
            name = told.ownerNames[which];
        } else if (kind == 1 && told.isLot(which)) {
            name = told.lotNames[which];
        } else if (kind == 2 && told.isPerson(which)) {
            name = told.personNames[which];
        }
        return name == 0 ? NONE : (name >> (5 * k)) & 31;
    }

    public int lot(int lot, int what) {
        if (!told.isLot(lot)) {
            return NONE;
        }
        switch (what) {
            case LOT_OWNER:
            case LOT_HEIGHT:
            case LOT_BEDS:
            case LOT_STORK: return told.lotRows[lot][what];
            case LOT_TILES: return now.tiles[lot];
            case LOT_GUESTS: return guests(lot);
            case LOT_FULL: return isFull(lot) ? 1 : 0;
            default: return NONE;
        }
    }

    private int guests(int lot) {
        int there = 0;
        for (int person = 0; person < told.persons; person++) {
            if (now.at[person] == lot) {
                there++;
            }
        }
        return there;
    }

    private boolean isFull(int lot) {
        int beds = told.lotRows[lot][LOT_BEDS];
        return beds > 0 && guests(lot) >= beds;
    }

    public int gap(int first, int second) {
        return told.wideOf(first, second);
    }

    public int person(int person, int what) {
        if (!told.isPerson(person)) {
            return NONE;
        }
        switch (what) {
            case WEIGHT_OF:
            case LEAP_OF:
            case CLIMB_OF:
            case HEEL_OF: return told.personRows[person][what];
            case AT_OF: return now.at[person];
            case TO_OF: return now.goal[person];
            case LED_OF: return now.ledTo(person);
            default: return NONE;
        }
    }

    public int purse(int owner) {
        return told.isOwner(owner) ? now.purses[owner] : NOTHING;
    }

    // ---- ways

    public int toll(int person, int lot) {
        if (!told.isPerson(person) || !told.isLot(lot)) {
            return NO_SUCH_TOLL;
        }
        return walk.tollAt(told, now, person, lot, now.tiles[lot]);
    }

    public int step(int person, int from, int to) {
        if (!told.isPerson(person) || !told.isLot(from) || !told.isLot(to)) {
            return NONE;
        }
        walk.look(told, now, person);
        return ((walk.hops[from] & walk.open) >> to) & 1;
    }

    public int way(int person, int k) {
        if (!findsWay(person)) {
            return NONE;
        }
        if (k == NONE) {
            return walk.coins;
        }
        if (k == WHOLE) {
            return walk.steps;
        }
        return k >= 0 && k < walk.steps ? walk.way[k] : NONE;
    }

    private boolean findsWay(int person) {
        if (!told.isPerson(person)) {
            return false;
        }
        walk.look(told, now, person);
        return walk.seek();
    }

    public int leave(int person, int what) {
        if (what < 0 || what > 1 || !told.isPerson(person)) {
            return NONE;
        }
        walk.look(told, now, person);
        int best = NONE;
        for (int owners = 0; owners < 1 << told.owners; owners++) {
            boolean fewer = best == NONE || Integer.bitCount(owners) < Integer.bitCount(best);
            if (fewer && walk.arrives(walk.open & told.lotsOf(owners))) {
                best = owners;
            }
        }
        return countOrBits(best, what);
    }

    private static int countOrBits(int bits, int what) {
        return bits == NONE || what == 1 ? bits : Integer.bitCount(bits);
    }

    // ---- acts

    public int go(int person) {
        if (!findsWay(person)) {
            return NONE;
        }
        keepForUndo();
        goFoundWay(person);
        return walk.coins;
    }

    /** Pays and breaks along the WAY that walk has just found; answers how many tiles BREAK. */
    private int goFoundWay(int person) {
        int broken = 0;
        for (int k = 0; k < walk.steps; k++) {
            int lot = walk.way[k];
            now.purses[told.lotRows[lot][LOT_OWNER]] += walk.tolls[lot];
            if (breaksAt(person, lot)) {
                now.tiles[lot]--;
                now.lead(lot, person);
                broken++;
            }
        }
        now.turnBack(person);
        return broken;
    }

    private boolean breaksAt(int person, int lot) {
        return now.tiles[lot] > 0 && told.personRows[person][WEIGHT_OF] > told.carry * now.tiles[lot];
    }

    public int night() {
        if (now.nightNumber >= LAST_NIGHT) {
            return NONE;
        }
        keepForUndo();
        int broken = 0;
        for (int person = 0; person < told.persons; person++) {
            if (findsWay(person)) {
                broken += goFoundWay(person);
            }
        }
        if (draw(100) < told.rain) {
            letRain();
        }
        now.nightNumber++;
        return broken;
    }

    private int draw(int m) {
        seedNow = (1103515245 * seedNow + 12345) & MOST_SEED;
        return m > 0 ? (seedNow >> 6) % m : 0;
    }

    private void letRain() {
        int leaky = leaks();
        for (int lot = 0; lot < told.lots; lot++) {
            if (((leaky >> lot) & 1) == 1) {
                now.purses[told.lotRows[lot][LOT_OWNER]]--;
            }
        }
    }

    public boolean patch(int from, int to) {
        if (!told.isLot(from) || !told.isLot(to) || from == to) {
            return false;
        }
        if (told.lotRows[from][LOT_STORK] == 1 || now.tiles[from] < 1 || now.tiles[to] >= MOST_TILES) {
            return false;
        }
        keepForUndo();
        now.tiles[from]--;
        now.tiles[to]++;
        return true;
    }

    public int snow(int n) {
        if (n < 0 || n > MOST_SNOW) {
            return NONE;
        }
        keepForUndo();
        int before = now.snowDepth;
        now.snowDepth = n;
        return before;
    }

    public int fire(int lot, int n) {
        int burning = burns(lot, n);
        if (burning == NONE) {
            return NONE;
        }
        keepForUndo();
        int gone = now.tilesOf(burning);
        now.takeAllOf(burning);
        return gone;
    }

    public boolean undo() {
        if (acts < 1) {
            return false;
        }
        acts--;
        pastNext = (pastNext + ACTS_KEPT - 1) % ACTS_KEPT;
        now.copyFrom(past[pastNext]);
        return true;
    }

    private void keepForUndo() {
        past[pastNext].copyFrom(now);
        pastNext = (pastNext + 1) % ACTS_KEPT;
        acts = Math.min(acts + 1, ACTS_KEPT);
    }

    public boolean seed(int seed) {
        if (seed < 0) {
            return false;
        }
        seedNow = seed;
        return true;
    }

    public int led(int k, int what) {
        if (k < 0 || k >= now.ledCount || what < LED_NIGHT || what > LED_PERSON) {
            return NONE;
        }
        return now.led[what][k];
    }

    // ---- what would be

    public int burns(int lot, int n) {
        if (!told.isLot(lot) || n < 0 || n > MOST_MINUTES || now.tiles[lot] == 0) {
            return NONE;
        }
        int holes = now.holes(told.lots);
        int burning = 1 << lot;
        for (int minute = 0; minute < n; minute++) {
            burning |= told.besides(burning, WIDEST_FOR_FIRE) & ~holes;
        }
        return burning;
    }

    public int stopped(int person, int what) {
        if (what < 0 || what > 1 || !told.isPerson(person)) {
            return NONE;
        }
        walk.look(told, now, person);
        int kept = told.storks() | 1 << now.at[person] | 1 << now.goal[person];
        int best = NONE;
        int fewest = 0;
        for (int taken = 0; taken < 1 << told.lots; taken++) {
            if ((taken & kept) == 0) {
                int tiles = now.tilesOf(taken);
                if ((best == NONE || tiles < fewest) && !walk.arrives(walk.open & ~taken)) {
                    best = taken;
                    fewest = tiles;
                }
            }
        }
        return best == NONE || what == 1 ? best : fewest;
    }

    public int opened(int person, int what) {
        if (what < 0 || what > 1 || !told.isPerson(person)) {
            return NONE;
        }
        walk.look(told, now, person);
        int useful = walk.openIfLaid(told, now, person);
        int best = NONE;
        for (int laid = 0; laid < 1 << told.lots; laid++) {
            boolean fewer = best == NONE || Integer.bitCount(laid) < Integer.bitCount(best);
            if ((laid & ~useful) == 0 && fewer && walk.arrives(walk.open | laid)) {
                best = laid;
            }
        }
        return countOrBits(best, what);
    }

    public int broke(int lot, int heel, int k) {
        if (!told.isLot(lot) || heel < 0 || heel > MOST_HEEL) {
            return NONE;
        }
        if (k == NONE) {
            return Integer.bitCount(breakers(lot, heel));
        }
        if (k == WHOLE) {
            return breakers(lot, heel);
        }
        return told.isPerson(k) ? odds(breakers(lot, heel), k) : NONE;
    }

    private int breakers(int lot, int heel) {
        int who = 0;
        for (int person = 0; person < told.persons; person++) {
            boolean could = told.personRows[person][HEEL_OF] == heel && breaksAt(person, lot);
            if (could) {
                walk.look(told, now, person);
                who |= walk.seek() && walk.comesTo(lot) ? 1 << person : 0;
            }
        }
        return who;
    }

    private static int odds(int who, int person) {
        int many = Integer.bitCount(who);
        return many > 0 && ((who >> person) & 1) == 1 ? 1000 / many : 0;
    }

    public int worth(int first, int second) {
        if (told.wideOf(first, second) == NONE) {
            return NOTHING;
        }
        int worth = 0;
        for (int person = 0; person < told.persons; person++) {
            walk.look(told, now, person);
            int with = walk.seek() ? walk.coins : COINS_WITHOUT_WAY;
            walk.cut(first, second);
            int without = walk.seek() ? walk.coins : COINS_WITHOUT_WAY;
            worth += without - with;
        }
        return worth;
    }

    public int reach(int person) {
        if (!told.isPerson(person)) {
            return NONE;
        }
        walk.look(told, now, person);
        return walk.reached(walk.open);
    }

    public int leaks() {
        int leaky = 0;
        for (int lot = 0; lot < told.lots; lot++) {
            if (now.tiles[lot] < TILES_TO_BE_TIGHT) {
                leaky |= 1 << lot;
            }
        }
        return leaky;
    }

    // ---- images

    public int image() {
        shotLength = 0;
        shoot(now.nightNumber >> 8);
        shoot(now.nightNumber);
        shoot(now.snowDepth);
        for (int lot = 0; lot < told.lots; lot++) {
            shoot(now.tiles[lot]);
        }
        for (int person = 0; person < told.persons; person++) {
            shoot(now.at[person]);
            shoot(now.goal[person]);
        }
        for (int owner = 0; owner < told.owners; owner++) {
            for (int shift = 24; shift >= 0; shift -= 8) {
                shoot(now.purses[owner] >> shift);
            }
        }
        shoot(checkByte(shot, shotLength));
        return shotLength;
    }

    private void shoot(int number) {
        if (shotLength < IMAGE_BYTES) {
            shot[shotLength] = number & 255;
            shotLength++;
        }
    }

    private static int checkByte(int[] bytes, int length) {
        int c = 131;
        for (int i = 0; i < length && i < bytes.length; i++) {
            c = (3 * c + bytes[i]) % 253;
        }
        return c;
    }

    public int octet(int k) {
        return k >= 0 && k < shotLength ? shot[k] : NONE;
    }

    public boolean on() {
        int length = tapeLength;
        tapeLength = 0;
        if (!isImage(length)) {
            return false;
        }
        now.load(tape, told);
        acts = 0;
        return true;
    }

    private boolean isImage(int length) {
        int due = 3 + told.lots + 2 * told.persons + 4 * told.owners + 1;
        if (length != due || tape[due - 1] != checkByte(tape, due - 1)) {
            return false;
        }
        if (tape[0] * 256 + tape[1] > LAST_NIGHT || tape[2] > MOST_SNOW) {
            return false;
        }
        for (int lot = 0; lot < told.lots; lot++) {
            if (tape[3 + lot] > MOST_TILES) {
                return false;
            }
        }
        for (int person = 0; person < told.persons; person++) {
            int k = 3 + told.lots + 2 * person;
            if (!told.goesBetween(person, tape[k], tape[k + 1])) {
                return false;
            }
        }
        return true;
    }

    /** What a text tells: it stays as it is until the next text. */
    private static final class Town {
        int owners;
        int lots;
        int gaps;
        int persons;
        int carry;
        int rain;
        final int[] ownerNames = new int[OWNERS];
        final int[] lotNames = new int[LOTS];
        final int[] personNames = new int[PERSONS];
        final int[][] lotRows = new int[LOTS][5];
        final int[][] personRows = new int[PERSONS][6];
        final int[][] wides = new int[LOTS][LOTS];
        final Laws laws = new Laws();

        Town() {
            clear();
        }

        void clear() {
            owners = 0;
            lots = 0;
            gaps = 0;
            persons = 0;
            carry = CARRY_UNTOLD;
            rain = 0;
            for (int lot = 0; lot < LOTS; lot++) {
                for (int other = 0; other < LOTS; other++) {
                    wides[lot][other] = NONE;
                }
            }
            laws.clear();
        }

        boolean isOwner(int owner) {
            return owner >= 0 && owner < owners;
        }

        boolean isLot(int lot) {
            return lot >= 0 && lot < lots;
        }

        boolean isPerson(int person) {
            return person >= 0 && person < persons;
        }

        int ownerNamed(int name) {
            return placeOf(name, ownerNames, owners);
        }

        int lotNamed(int name) {
            return placeOf(name, lotNames, lots);
        }

        boolean knows(int name) {
            return ownerNamed(name) != NONE || lotNamed(name) != NONE
                || placeOf(name, personNames, persons) != NONE;
        }

        private static int placeOf(int name, int[] names, int count) {
            for (int i = 0; i < count && i < names.length; i++) {
                if (names[i] == name) {
                    return i;
                }
            }
            return NONE;
        }

        int allLots() {
            return (1 << lots) - 1;
        }

        int lotsOf(int someOwners) {
            int bits = 0;
            for (int lot = 0; lot < lots; lot++) {
                if (((someOwners >> lotRows[lot][LOT_OWNER]) & 1) == 1) {
                    bits |= 1 << lot;
                }
            }
            return bits;
        }

        int storks() {
            int bits = 0;
            for (int lot = 0; lot < lots; lot++) {
                bits |= lotRows[lot][LOT_STORK] << lot;
            }
            return bits;
        }

        int wideOf(int first, int second) {
            return isLot(first) && isLot(second) ? wides[first][second] : NONE;
        }

        /** LOTS that have a GAP not wider than this to one of some LOTS. */
        int besides(int someLots, int widest) {
            int bits = 0;
            for (int lot = 0; lot < lots; lot++) {
                for (int other = 0; other < lots; other++) {
                    int wide = wides[lot][other];
                    if (((someLots >> lot) & 1) == 1 && wide != NONE && wide <= widest) {
                        bits |= 1 << other;
                    }
                }
            }
            return bits;
        }

        boolean goesBetween(int person, int at, int to) {
            int one = personRows[person][AT_OF];
            int other = personRows[person][TO_OF];
            return at == one && to == other || at == other && to == one;
        }

        void addOwner(int name) {
            if (owners < OWNERS) {
                ownerNames[owners] = name;
                owners++;
            }
        }

        void addLot(int name, int owner, int height, int tiles) {
            if (lots < LOTS) {
                lotNames[lots] = name;
                lotRows[lots][LOT_OWNER] = owner;
                lotRows[lots][LOT_HEIGHT] = height;
                lotRows[lots][LOT_TILES] = tiles;
                lotRows[lots][LOT_BEDS] = 0;
                lotRows[lots][LOT_STORK] = 0;
                lots++;
            }
        }

        void addGap(int first, int second, int wide) {
            if (isLot(first) && isLot(second)) {
                wides[first][second] = wide;
                wides[second][first] = wide;
                gaps++;
            }
        }

        /** The row that the next PERSON's numbers go to; it counts when addPerson is called. */
        int[] nextPersonRow() {
            return personRows[Math.min(persons, PERSONS - 1)];
        }

        void addPerson(int name) {
            if (persons < PERSONS) {
                personNames[persons] = name;
                persons++;
            }
        }
    }

    /** Tolls and bars, and how much they come to for somebody somewhere. */
    private static final class Laws {
        int count;
        int length;
        private final int[] owners = new int[LAWS];
        private final int[] sumsFrom = new int[LAWS];
        private final int[] testsFrom = new int[LAWS];
        private final int[] testsTo = new int[LAWS];
        private final int[] tokens = new int[TAPE_BYTES];
        private final int[] pile = new int[PILE];
        private int weight;
        private int heel;
        private int height;
        private int tiles;
        private int night;

        Laws() {
        }

        void clear() {
            count = 0;
            length = 0;
        }

        void put(int token) {
            if (length < TAPE_BYTES) {
                tokens[length] = token;
                length++;
            }
        }

        /** The tokens from one place on are a SUM (none for a bar), those from another on its TEST. */
        void add(int owner, int sumFrom, int testFrom) {
            if (count < LAWS) {
                owners[count] = owner;
                sumsFrom[count] = sumFrom;
                testsFrom[count] = testFrom;
                testsTo[count] = length;
                count++;
            }
        }

        void setPerson(int itsWeight, int itsHeel) {
            weight = itsWeight;
            heel = itsHeel;
        }

        void setPlace(int itsHeight, int itsTiles, int atNight) {
            height = itsHeight;
            tiles = itsTiles;
            night = atNight;
        }

        /** TOLL by an OWNER's LAWS for the PERSON and the place that were set last. */
        int due(int owner) {
            int first = NONE;
            for (int law = 0; law < count; law++) {
                boolean bar = sumsFrom[law] == testsFrom[law];
                if (owners[law] == owner && (bar || first == NONE) && valueOf(testsFrom[law], testsTo[law]) != 0) {
                    if (bar) {
                        return NONE;
                    }
                    first = law;
                }
            }
            if (first == NONE) {
                return 0;
            }
            return Math.max(0, Math.min(MOST_TOLL, valueOf(sumsFrom[first], testsFrom[first])));
        }

        private int valueOf(int from, int to) {
            int high = 0;
            for (int i = from; i < to && i < TAPE_BYTES; i++) {
                int token = tokens[i];
                if (token == WORD_TOKEN + NOT) {
                    if (high > 0) {
                        pile[high - 1] = 1 - pile[high - 1];
                    }
                } else if (isJoint(token)) {
                    if (high > 1) {
                        high--;
                        long whole = joined(token, pile[high - 1], pile[high]);
                        pile[high - 1] = (int) Math.max(-SUM_BOUND, Math.min(SUM_BOUND, whole));
                    }
                } else if (high < PILE) {
                    pile[high] = single(token);
                    high++;
                }
            }
            return high > 0 ? pile[high - 1] : 0;
        }

        private static boolean isJoint(int token) {
            switch (token) {
                case WORD_TOKEN + OR:
                case WORD_TOKEN + AND:
                case WORD_TOKEN + MIN:
                case WORD_TOKEN + MAX: return true;
                default: return token >= SIGN_TOKEN && token < WORD_TOKEN;
            }
        }

        private int single(int token) {
            switch (token) {
                case WORD_TOKEN + WEIGHT: return weight;
                case WORD_TOKEN + HEEL: return heel;
                case WORD_TOKEN + HEIGHT: return height;
                case WORD_TOKEN + TILES: return tiles;
                case WORD_TOKEN + NIGHT: return night;
                case WORD_TOKEN + ALL: return 1;
                default: return token;
            }
        }

        private static long joined(int token, long left, long right) {
            switch (token) {
                case SIGN_TOKEN + '+': return left + right;
                case SIGN_TOKEN + '-': return left - right;
                case SIGN_TOKEN + '*': return left * right;
                case SIGN_TOKEN + '/': return right == 0 ? 0 : Math.floorDiv(left, right);
                case SIGN_TOKEN + '<': return left < right ? 1 : 0;
                case SIGN_TOKEN + '>': return left > right ? 1 : 0;
                case SIGN_TOKEN + '=': return left == right ? 1 : 0;
                case WORD_TOKEN + OR: return left | right;
                case WORD_TOKEN + AND: return left & right;
                case WORD_TOKEN + MIN: return Math.min(left, right);
                case WORD_TOKEN + MAX: return Math.max(left, right);
                default: return 0;
            }
        }
    }

    /** All that ACTS change: an ACT is undone by copying it back. */
    private static final class Roofs {
        int nightNumber;
        int snowDepth;
        int ledCount;
        final int[] tiles = new int[LOTS];
        final int[] at = new int[PERSONS];
        final int[] goal = new int[PERSONS];
        final int[] purses = new int[OWNERS];
        final int[][] led = new int[3][LED_TOLD];

        Roofs() {
        }

        void begin(Town town) {
            nightNumber = 0;
            snowDepth = 0;
            ledCount = 0;
            for (int lot = 0; lot < town.lots; lot++) {
                tiles[lot] = town.lotRows[lot][LOT_TILES];
            }
            for (int person = 0; person < town.persons; person++) {
                at[person] = town.personRows[person][AT_OF];
                goal[person] = town.personRows[person][TO_OF];
            }
            for (int owner = 0; owner < OWNERS; owner++) {
                purses[owner] = 0;
            }
        }

        /** Takes over an image that has been looked at: it is as long as the town wants it. */
        void load(int[] bytes, Town town) {
            nightNumber = bytes[0] * 256 + bytes[1];
            snowDepth = bytes[2];
            ledCount = 0;
            int k = 3;
            for (int lot = 0; lot < town.lots; lot++) {
                tiles[lot] = bytes[k];
                k++;
            }
            for (int person = 0; person < town.persons; person++) {
                at[person] = bytes[k];
                goal[person] = bytes[k + 1];
                k += 2;
            }
            for (int owner = 0; owner < town.owners; owner++) {
                purses[owner] = bytes[k] << 24 | bytes[k + 1] << 16 | bytes[k + 2] << 8 | bytes[k + 3];
                k += 4;
            }
        }

        void copyFrom(Roofs other) {
            nightNumber = other.nightNumber;
            snowDepth = other.snowDepth;
            ledCount = other.ledCount;
            System.arraycopy(other.tiles, 0, tiles, 0, LOTS);
            System.arraycopy(other.at, 0, at, 0, PERSONS);
            System.arraycopy(other.goal, 0, goal, 0, PERSONS);
            System.arraycopy(other.purses, 0, purses, 0, OWNERS);
            for (int what = LED_NIGHT; what <= LED_PERSON; what++) {
                System.arraycopy(other.led[what], 0, led[what], 0, LED_TOLD);
            }
        }

        void lead(int lot, int person) {
            if (ledCount >= LED_TOLD) {
                forgetOldestLed();
            }
            led[LED_NIGHT][ledCount] = nightNumber;
            led[LED_LOT][ledCount] = lot;
            led[LED_PERSON][ledCount] = person;
            ledCount++;
        }

        private void forgetOldestLed() {
            for (int what = LED_NIGHT; what <= LED_PERSON; what++) {
                System.arraycopy(led[what], 1, led[what], 0, LED_TOLD - 1);
            }
            ledCount = LED_TOLD - 1;
        }

        int ledTo(int person) {
            int many = 0;
            for (int k = 0; k < ledCount; k++) {
                if (led[LED_PERSON][k] == person) {
                    many++;
                }
            }
            return many;
        }

        void turnBack(int person) {
            int arrived = goal[person];
            goal[person] = at[person];
            at[person] = arrived;
        }

        int holes(int lots) {
            int bits = 0;
            for (int lot = 0; lot < lots; lot++) {
                if (tiles[lot] == 0) {
                    bits |= 1 << lot;
                }
            }
            return bits;
        }

        int tilesOf(int someLots) {
            int sum = 0;
            for (int lot = 0; lot < LOTS; lot++) {
                if (((someLots >> lot) & 1) == 1) {
                    sum += tiles[lot];
                }
            }
            return sum;
        }

        void takeAllOf(int someLots) {
            for (int lot = 0; lot < LOTS; lot++) {
                if (((someLots >> lot) & 1) == 1) {
                    tiles[lot] = 0;
                }
            }
        }
    }

    /** One PERSON's STEPS and WAY; look comes ahead of all else. */
    private static final class Walk {
        private int lots;
        private int start;
        private int last;
        /** LOTS that are no HOLE and not BARRED. */
        int open;
        int coins;
        int steps;
        /** By GAP, leap and climb alone: to which LOTS he could come from a LOT. */
        final int[] hops = new int[LOTS];
        final int[] tolls = new int[LOTS];
        final int[] way = new int[LOTS];
        private final int[] rest = new int[LOTS];

        Walk() {
        }

        void look(Town town, Roofs roofs, int person) {
            lots = town.lots;
            start = roofs.at[person];
            last = roofs.goal[person];
            open = 0;
            for (int lot = 0; lot < lots; lot++) {
                tolls[lot] = tollAt(town, roofs, person, lot, roofs.tiles[lot]);
                if (roofs.tiles[lot] > 0 && tolls[lot] != NONE) {
                    open |= 1 << lot;
                }
                hops[lot] = hopsFrom(town, roofs.snowDepth, person, lot);
            }
        }

        int tollAt(Town town, Roofs roofs, int person, int lot, int tiles) {
            if (roofs.snowDepth > 0) {
                return 0;
            }
            town.laws.setPerson(town.personRows[person][WEIGHT_OF], town.personRows[person][HEEL_OF]);
            town.laws.setPlace(town.lotRows[lot][LOT_HEIGHT], tiles, roofs.nightNumber);
            return town.laws.due(town.lotRows[lot][LOT_OWNER]);
        }

        private static int hopsFrom(Town town, int snowDepth, int person, int lot) {
            int leap = town.personRows[person][LEAP_OF];
            int climb = town.personRows[person][CLIMB_OF];
            int bits = 0;
            for (int other = 0; other < town.lots; other++) {
                int wide = town.wides[lot][other];
                int up = town.lotRows[other][LOT_HEIGHT] - town.lotRows[lot][LOT_HEIGHT];
                if (wide != NONE && wide - snowDepth <= leap && up <= climb) {
                    bits |= 1 << other;
                }
            }
            return bits;
        }

        /** HOLES that he could come to, if each had one tile: their TOLLS are those of one tile, too. */
        int openIfLaid(Town town, Roofs roofs, int person) {
            int bits = 0;
            for (int lot = 0; lot < lots; lot++) {
                if (roofs.tiles[lot] == 0 && tollAt(town, roofs, person, lot, 1) != NONE) {
                    bits |= 1 << lot;
                }
            }
            return bits;
        }

        void cut(int first, int second) {
            hops[first] &= ~(1 << second);
            hops[second] &= ~(1 << first);
        }

        int reached(int openLots) {
            int seen = 1 << start;
            for (int round = 0; round < LOTS; round++) {
                int more = seen;
                for (int lot = 0; lot < lots; lot++) {
                    if (((seen >> lot) & 1) == 1) {
                        more |= hops[lot] & openLots;
                    }
                }
                if (more == seen) {
                    return seen;
                }
                seen = more;
            }
            return seen;
        }

        boolean arrives(int openLots) {
            return ((reached(openLots) >> last) & 1) == 1;
        }

        /** Finds the WAY, if there is one. */
        boolean seek() {
            measureRest();
            if (rest[start] >= FAR) {
                return false;
            }
            coins = rest[start] / COIN;
            steps = 0;
            int here = start;
            for (int k = 0; k < LOTS && here != last; k++) {
                here = nextFrom(here);
                way[k] = here;
                steps++;
            }
            return true;
        }

        /** From the end backwards: the fewest COINS, then STEPS, that each LOT is away from it. */
        private void measureRest() {
            for (int lot = 0; lot < LOTS; lot++) {
                rest[lot] = FAR;
            }
            rest[last] = 0;
            boolean better = true;
            for (int round = 0; round < LOTS && better; round++) {
                better = false;
                for (int lot = 0; lot < lots; lot++) {
                    for (int other = 0; other < lots; other++) {
                        if (restBy(lot, other) < rest[lot]) {
                            rest[lot] = restBy(lot, other);
                            better = true;
                        }
                    }
                }
            }
        }

        private int restBy(int lot, int other) {
            if (((hops[lot] & open) >> other & 1) == 0 || rest[other] >= FAR) {
                return FAR;
            }
            return rest[other] + tolls[other] * COIN + 1;
        }

        /** The first LOT by which the rest is as short as it can be. */
        private int nextFrom(int here) {
            for (int other = 0; other < lots; other++) {
                if (restBy(here, other) == rest[here]) {
                    return other;
                }
            }
            return last;
        }

        boolean comesTo(int lot) {
            for (int k = 0; k < steps; k++) {
                if (way[k] == lot) {
                    return true;
                }
            }
            return false;
        }
    }

    /** Reads a town's text from the left on: the first FAULT stays, and nothing behind it counts. */
    private static final class TownText {
        int faulty;
        int place;
        private int[] bytes = new int[0];
        private int length;
        private int at;
        private int nameAt;
        /** Where the word or number that was read last has ended. */
        private int wordyEnd;
        private Town town = new Town();
        private final int[] ownWords = new int[OWN_WORDS_COUNT];

        TownText() {
            place = NONE;
            packOwnWords();
        }

        private void packOwnWords() {
            int word = 0;
            int name = 0;
            int letters = 0;
            for (int i = 0; i < OWN_WORDS.length(); i++) {
                char c = OWN_WORDS.charAt(i);
                if (c != ' ') {
                    name |= (c - 'a' + 1) << (5 * letters);
                    letters++;
                } else if (word < OWN_WORDS_COUNT) {
                    ownWords[word] = name;
                    word++;
                    name = 0;
                    letters = 0;
                }
            }
        }

        void open(int[] tapeBytes, int tapeLength) {
            bytes = tapeBytes;
            length = Math.min(tapeLength, tapeBytes.length);
            town.clear();
            at = 0;
            wordyEnd = NONE;
            faulty = 0;
            place = NONE;
        }

        boolean goesOn() {
            skipBlanks();
            return faulty == 0 && at < length;
        }

        void close() {
            if (goesOn()) {
                fail(FAULT_MANY, at);
            }
        }

        /** The town that has been read, for an old one that the next text is read into. */
        Town handOver(Town old) {
            Town read = town;
            town = old;
            return read;
        }

        // ---- STATEMENTS

        void readStatement() {
            switch (wordHere()) {
                case OWNER: readOwner(); break;
                case LOT: readLot(); break;
                case INN: readInn(); break;
                case STORK: readStork(); break;
                case GAP: readGap(); break;
                case PERSON: readPerson(); break;
                case TOLL: readLaw(true); break;
                case BAR: readLaw(false); break;
                case CARRY: passWord(); town.carry = number(1, MOST_CARRY); break;
                case RAIN: passWord(); town.rain = number(0, MOST_RAIN); break;
                default: fail(FAULT_TEXT, at);
            }
            takeSign(';');
        }

        private void beginOneOf(int count, int most) {
            if (count >= most) {
                fail(FAULT_MANY, at);
            }
            passWord();
        }

        private void readOwner() {
            beginOneOf(town.owners, OWNERS);
            int name = newName();
            if (faulty == 0) {
                town.addOwner(name);
            }
        }

        private void readLot() {
            beginOneOf(town.lots, LOTS);
            int name = newName();
            takeWord(OF);
            int owner = ownerByName();
            takeWord(HEIGHT);
            int height = number(0, MOST_HEIGHT);
            takeWord(TILES);
            int tiles = number(0, MOST_TILES);
            if (faulty == 0) {
                town.addLot(name, owner, height, tiles);
            }
        }

        private void readInn() {
            passWord();
            int lot = lotByName();
            refuseNameIf(town.isLot(lot) && town.lotRows[lot][LOT_BEDS] != 0);
            takeWord(BEDS);
            int beds = number(1, MOST_BEDS);
            if (faulty == 0 && town.isLot(lot)) {
                town.lotRows[lot][LOT_BEDS] = beds;
            }
        }

        private void readStork() {
            passWord();
            int lot = lotByName();
            refuseNameIf(town.isLot(lot) && town.lotRows[lot][LOT_STORK] != 0);
            if (faulty == 0 && town.isLot(lot)) {
                town.lotRows[lot][LOT_STORK] = 1;
            }
        }

        private void readGap() {
            beginOneOf(town.gaps, GAPS);
            int first = lotByName();
            int second = lotByName();
            refuseNameIf(first == second || town.wideOf(first, second) != NONE);
            takeWord(WIDE);
            int wide = number(0, MOST_WIDE);
            if (faulty == 0) {
                town.addGap(first, second, wide);
            }
        }

        private void readPerson() {
            beginOneOf(town.persons, PERSONS);
            int name = newName();
            int[] row = town.nextPersonRow();
            takeWord(WEIGHT);
            row[WEIGHT_OF] = number(1, MOST_WEIGHT);
            takeWord(LEAP);
            row[LEAP_OF] = number(0, MOST_LEAP);
            takeWord(CLIMB);
            row[CLIMB_OF] = number(0, MOST_CLIMB);
            takeWord(HEEL);
            row[HEEL_OF] = number(0, MOST_HEEL);
            takeWord(AT);
            row[AT_OF] = lotByName();
            takeWord(TO);
            row[TO_OF] = lotByName();
            refuseNameIf(row[AT_OF] == row[TO_OF]);
            if (faulty == 0) {
                town.addPerson(name);
            }
        }

        private void readLaw(boolean withSum) {
            beginOneOf(town.laws.count, LAWS);
            int owner = ownerByName();
            int sumFrom = town.laws.length;
            if (withSum) {
                sum(0);
            }
            takeWord(WHEN);
            int testFrom = town.laws.length;
            test(0);
            if (faulty == 0) {
                town.laws.add(owner, sumFrom, testFrom);
            }
        }

        // ---- TESTS and SUMS: what is open at once is few, so these calls never go deep

        private void test(int open) {
            both(open);
            for (int n = 0; n < TAPE_BYTES && faulty == 0 && wordHere() == OR; n++) {
                passWord();
                both(open);
                town.laws.put(WORD_TOKEN + OR);
            }
        }

        private void both(int open) {
            fact(open);
            for (int n = 0; n < TAPE_BYTES && faulty == 0 && wordHere() == AND; n++) {
                passWord();
                fact(open);
                town.laws.put(WORD_TOKEN + AND);
            }
        }

        private void fact(int open) {
            if (faulty != 0) {
                return;
            }
            int word = wordHere();
            if (word == NOT) {
                if (mayOpen(open)) {
                    passWord();
                    fact(open + 1);
                    town.laws.put(WORD_TOKEN + NOT);
                }
            } else if (word == ALL) {
                passWord();
                town.laws.put(WORD_TOKEN + ALL);
            } else if (here() == '[') {
                if (mayOpen(open)) {
                    takeSign('[');
                    test(open + 1);
                    takeSign(']');
                }
            } else {
                comparison(open);
            }
        }

        private void comparison(int open) {
            sum(open);
            skipBlanks();
            int sign = here();
            if (sign == '<' || sign == '>' || sign == '=') {
                at++;
                sum(open);
                town.laws.put(SIGN_TOKEN + sign);
            } else {
                fail(FAULT_TEXT, at);
            }
        }

        private void sum(int open) {
            product(open);
            for (int n = 0; n < TAPE_BYTES && faulty == 0 && isHere('+', '-'); n++) {
                int sign = here();
                at++;
                product(open);
                town.laws.put(SIGN_TOKEN + sign);
            }
        }

        private void product(int open) {
            part(open);
            for (int n = 0; n < TAPE_BYTES && faulty == 0 && isHere('*', '/'); n++) {
                int sign = here();
                at++;
                part(open);
                town.laws.put(SIGN_TOKEN + sign);
            }
        }

        private void part(int open) {
            if (faulty != 0) {
                return;
            }
            int word = wordHere();
            if (isDigit(here())) {
                town.laws.put(number(0, MOST_NUMBER));
            } else if (here() == '(') {
                if (mayOpen(open)) {
                    takeSign('(');
                    sum(open + 1);
                    takeSign(')');
                }
            } else if (word == MIN || word == MAX) {
                passWord();
                pair(open);
                town.laws.put(WORD_TOKEN + word);
            } else if (isFactWord(word)) {
                passWord();
                town.laws.put(WORD_TOKEN + word);
            } else {
                fail(FAULT_TEXT, at);
            }
        }

        private void pair(int open) {
            skipBlanks();
            if (here() != '(') {
                fail(FAULT_TEXT, at);
            } else if (mayOpen(open)) {
                takeSign('(');
                sum(open + 1);
                takeSign(',');
                sum(open + 1);
                takeSign(')');
            }
        }

        private boolean mayOpen(int open) {
            if (open >= OPEN_AT_ONCE) {
                fail(FAULT_OPEN, at);
            }
            return faulty == 0;
        }

        private static boolean isFactWord(int word) {
            return word == WEIGHT || word == HEEL || word == HEIGHT || word == TILES || word == NIGHT;
        }

        // ---- NAMES, numbers, words, signs

        private int name() {
            skipBlanks();
            int end = lettersEnd();
            nameAt = at;
            if (end == at || sticks()) {
                fail(FAULT_TEXT, at);
            } else if (end - at > NAME_LETTERS) {
                fail(FAULT_TEXT, at + NAME_LETTERS);
            } else if (wordHere() != NO_WORD) {
                fail(FAULT_TEXT, at);
            } else {
                int name = packed(at, end);
                passWord();
                return name;
            }
            return 0;
        }

        private void refuseNameIf(boolean cannotBe) {
            if (cannotBe) {
                fail(FAULT_NAME, nameAt);
            }
        }

        private int newName() {
            int name = name();
            refuseNameIf(town.knows(name));
            return name;
        }

        private int ownerByName() {
            int owner = town.ownerNamed(name());
            refuseNameIf(owner == NONE);
            return owner;
        }

        private int lotByName() {
            int lot = town.lotNamed(name());
            refuseNameIf(lot == NONE);
            return lot;
        }

        private int number(int least, int most) {
            skipBlanks();
            int first = at;
            boolean sticking = sticks();
            int number = 0;
            for (int k = 0; k < NUMBER_DIGITS && isDigit(here()); k++) {
                number = 10 * number + here() - '0';
                at++;
            }
            wordyEnd = at;
            if (at == first || sticking) {
                fail(FAULT_TEXT, first);
            } else if (isDigit(here())) {
                fail(FAULT_TEXT, at);
            } else if (number < least || number > most) {
                fail(FAULT_NUMBER, first);
            }
            return number;
        }

        private void takeWord(int word) {
            if (wordHere() == word) {
                passWord();
            } else {
                fail(FAULT_TEXT, at);
            }
        }

        private void takeSign(char sign) {
            skipBlanks();
            if (here() == sign) {
                at++;
            } else {
                fail(FAULT_TEXT, at);
            }
        }

        /** Behind blanks: the OWN WORD here, NO_WORD if there is none. */
        private int wordHere() {
            skipBlanks();
            int end = lettersEnd();
            if (end == at || end - at > NAME_LETTERS || sticks()) {
                return NO_WORD;
            }
            int name = packed(at, end);
            for (int word = 0; word < OWN_WORDS_COUNT; word++) {
                if (ownWords[word] == name) {
                    return word;
                }
            }
            return NO_WORD;
        }

        private void passWord() {
            at = lettersEnd();
            wordyEnd = at;
        }

        private int packed(int from, int end) {
            int name = 0;
            for (int i = from; i < end && i < length; i++) {
                name |= (bytes[i] - 'a' + 1) << (5 * (i - from));
            }
            return name;
        }

        private int lettersEnd() {
            int end = at;
            while (end < length && bytes[end] >= 'a' && bytes[end] <= 'z') {
                end++;
            }
            return end;
        }

        private void skipBlanks() {
            while (at < length && (bytes[at] == ' ' || bytes[at] == 10)) {
                at++;
            }
        }

        private int here() {
            return at < length ? bytes[at] : NONE;
        }

        private boolean isHere(char one, char other) {
            skipBlanks();
            return here() == one || here() == other;
        }

        /** Words and numbers side by side need a blank between them. */
        private boolean sticks() {
            return at == wordyEnd;
        }

        private static boolean isDigit(int c) {
            return c >= '0' && c <= '9';
        }

        private void fail(int what, int where) {
            if (faulty == 0) {
                faulty = what;
                place = where;
            }
        }
    }
}
