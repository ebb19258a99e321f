import java.util.function.ToLongFunction;

/** Checks of texts that are right, and of texts with a fault at a place; and towns that many of them begin with. */
final class TextChecks {
    static final String OWNER = "owner o;";
    static final String FIVE_OWNERS = "owner o;owner q;owner r;owner s;owner t;";
    /** Two lots a and b of o, nobody. */
    static final String TWO = OWNER + "lot a of o height 1 tiles 2;lot b of o height 1 tiles 2;";
    static final String THREE = TWO + "lot c of o height 1 tiles 2;";
    static final String PERSON = "person p weight 1 leap 1 climb 1 heel 1 at a to b;";
    static final String[] OWN_WORDS = {
        "owner", "lot", "of", "height", "tiles", "inn", "beds", "stork", "gap", "wide", "person", "weight", "leap",
        "climb", "heel", "at", "to", "toll", "bar", "when", "carry", "rain", "night", "or", "and", "not", "all",
        "min", "max"};

    private final Ledger ledger;

    TextChecks(Ledger ledger) {
        this.ledger = ledger;
    }

    void right(String text, int statements) {
        TileHeel x = new TileHeel();
        ledger.due("town of " + text, Check.town(x, text), statements);
        ledger.due("no fault in " + text, x.fault(0), 0);
        ledger.due("no place in " + text, x.fault(1), TileHeel.NONE);
    }

    void wrong(int fault, String text, int place) {
        TileHeel x = new TileHeel();
        ledger.due("town of " + text, Check.town(x, text), TileHeel.NONE);
        ledger.due("fault of " + text, x.fault(0), fault);
        ledger.due("place in " + text, x.fault(1), place);
    }

    /** The fault is where the mark ! stands, which is taken out. */
    void wrongAtMark(int fault, String marked) {
        int place = marked.indexOf('!');
        wrong(fault, marked.substring(0, place) + marked.substring(place + 1), place);
    }

    /** A number between two texts: the least and the most of it are told, those just outside are refused. */
    void range(String before, String after, int least, int most, ToLongFunction<TileHeel> told) {
        for (int n : new int[] {least, most}) {
            ledger.due(before + n + after, told.applyAsLong(Check.told(before + n + after)), n);
        }
        if (least == 0) {
            wrongAtMark(1, before + "!-1" + after);
        } else {
            wrongAtMark(2, before + "!" + (least - 1) + after);
        }
        wrongAtMark(2, before + "!" + (most + 1) + after);
        wrongAtMark(2, before + "!9999" + after);
    }

    /** So many lots la, lb .. of o. */
    static String lots(int count) {
        StringBuilder text = new StringBuilder(OWNER);
        for (int k = 0; k < count; k++) {
            text.append("lot l").append((char) ('a' + k)).append(" of o height 0 tiles 30;");
        }
        return text.toString();
    }

    /** Ten lots, and so many gaps: la and lb, la and lc .., of 45 that may be. */
    static String gaps(int count) {
        StringBuilder text = new StringBuilder(lots(10));
        int told = 0;
        for (char a = 'a'; a < 'k'; a++) {
            for (char b = (char) (a + 1); b < 'k' && told < count; b++) {
                text.append("gap l").append(a).append(" l").append(b).append(" wide 1;");
                told++;
            }
        }
        return text.toString();
    }

    static String persons(int count) {
        StringBuilder text = new StringBuilder(TWO);
        for (int k = 0; k < count; k++) {
            text.append(PERSON.replace("person p", "person p" + (char) ('a' + k)));
        }
        return text.toString();
    }
}
