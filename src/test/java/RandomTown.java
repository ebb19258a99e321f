import java.util.ArrayList;
import java.util.Collections;
import java.util.List;
import java.util.Random;

/** Texts of towns by a seed: right ones, and ones that were spoiled somewhere. */
final class RandomTown {
    private static final String[] OWN = {
        "owner", "lot", "of", "height", "tiles", "inn", "beds", "stork", "gap", "wide", "person", "weight",
        "leap", "climb", "heel", "at", "to", "toll", "bar", "when", "carry", "rain", "night", "or", "and",
        "not", "all", "min", "max"};
    private static final String[] ODD = {
        "(", ")", "[", "]", ",", ";", "+", "-", "*", "/", "<", ">", "=", "A", "\t", "_", "\u00e9", "\0", "#"};

    private final Random random;
    private final List<String> names = new ArrayList<>();
    private final List<String> owners = new ArrayList<>();
    private final List<String> lots = new ArrayList<>();
    private List<String> tokens;
    /** Whether people leap and climb well, and roofs are near and whole. */
    private boolean easy;

    RandomTown(Random random) {
        this.random = random;
    }

    private int below(int n) {
        return random.nextInt(n);
    }

    private int between(int low, int high) {
        return low + below(high - low + 1);
    }

    private void put(Object... some) {
        for (Object one : some) {
            tokens.add(one.toString());
        }
    }

    private String freshName() {
        for (;;) {
            StringBuilder name = new StringBuilder();
            int length = below(4) == 0 ? between(1, 6) : between(1, 2);
            for (int k = 0; k < length; k++) {
                name.append((char) ('a' + below(26)));
            }
            if (!names.contains(name.toString()) && !List.of(OWN).contains(name.toString())) {
                names.add(name.toString());
                return name.toString();
            }
        }
    }

    private String some(List<String> of) {
        return of.get(below(of.size()));
    }

    /** A text that the document takes, if it is not longer than a tape. */
    String right() {
        tokens = new ArrayList<>();
        names.clear();
        owners.clear();
        lots.clear();
        easy = below(2) == 0;
        int ownerCount = between(below(8) == 0 ? 0 : 1, 5);
        for (int k = 0; k < ownerCount; k++) {
            owners.add(freshName());
            put("owner", owners.get(k), ";");
        }
        if (ownerCount > 0) {
            tellLots();
        }
        for (int k = below(3); k > 0; k--) {
            if (below(2) == 0) {
                put("carry", between(1, below(3) == 0 ? 20 : 6), ";");
            } else {
                put("rain", between(0, 100), ";");
            }
        }
        return spaced();
    }

    private void tellLots() {
        int lotCount = below(4) == 0 ? between(0, 10) : between(3, easy ? 9 : 7);
        int heights = below(2) == 0 ? 4 : 20;
        int tiles = below(2) == 0 ? 8 : 30;
        for (int k = 0; k < lotCount; k++) {
            lots.add(freshName());
            int there = below(easy ? 9 : 5) == 0 ? 0 : between(0, tiles);
            put("lot", lots.get(k), "of", some(owners), "height", between(0, heights), "tiles", there, ";");
            if (below(3) == 0) {
                put("inn", lots.get(k), "beds", between(1, below(3) == 0 ? 9 : 2), ";");
            }
            if (below(5) == 0) {
                put("stork", lots.get(k), ";");
            }
        }
        if (lotCount < 2) {
            return;
        }
        tellGaps(lotCount);
        for (int k = between(0, 6); k > 0; k--) {
            int at = below(lotCount);
            int to = (at + between(1, lotCount - 1)) % lotCount;
            for (int tries = 0; easy && tries < 5 && Math.abs(at - to) < 3; tries++) {
                to = (at + between(1, lotCount - 1)) % lotCount;
            }
            put("person", freshName(), "weight", between(1, below(2) == 0 ? 30 : 99), "leap");
            put(between(easy ? 4 : 0, 9));
            put("climb", between(easy ? 3 : 0, below(2) == 0 ? 5 : 20), "heel", between(0, below(2) == 0 ? 2 : 9));
            put("at", lots.get(at), "to", lots.get(to), ";");
        }
        for (int k = between(0, below(2) == 0 ? 8 : 4); k > 0; k--) {
            if (below(3) > 0) {
                put("toll", some(owners));
                sum(between(0, 3));
            } else {
                put("bar", some(owners));
            }
            put("when");
            if (below(3) == 0) {
                put("all");
            } else {
                test(between(0, 3));
            }
            put(";");
        }
    }

    private void tellGaps(int lotCount) {
        List<int[]> pairs = new ArrayList<>();
        for (int a = 0; a < lotCount; a++) {
            for (int b = a + 1; b < lotCount; b++) {
                pairs.add(below(2) == 0 ? new int[] {a, b} : new int[] {b, a});
            }
        }
        Collections.shuffle(pairs, random);
        if (easy) {
            // near lots alone: then ways are long
            pairs.removeIf(pair -> Math.abs(pair[0] - pair[1]) > 2);
        }
        int most = Math.min(20, Math.min(pairs.size(), below(3) == 0 ? 20 : lotCount + (easy ? 6 : 3)));
        for (int k = 0; k < most; k++) {
            put("gap", lots.get(pairs.get(k)[0]), lots.get(pairs.get(k)[1]), "wide");
            put(between(0, !easy && below(3) == 0 ? 9 : 3), ";");
        }
    }

    private void test(int depth) {
        fact(depth);
        while (below(3) == 0) {
            put(below(2) == 0 ? "or" : "and");
            fact(depth);
        }
    }

    private void fact(int depth) {
        int kind = below(6);
        if (kind == 0 && depth > 0) {
            put("not");
            fact(depth - 1);
        } else if (kind == 1 && depth > 0) {
            put("[");
            test(depth - 1);
            put("]");
        } else if (kind == 2 && below(3) == 0) {
            put("all");
        } else {
            sum(depth);
            put("<>=".substring(below(3)).substring(0, 1));
            sum(depth);
        }
    }

    private void sum(int depth) {
        part(depth);
        while (below(3) == 0) {
            put("+-*/".substring(below(4)).substring(0, 1));
            part(depth);
        }
    }

    private void part(int depth) {
        int kind = below(8);
        if (kind == 0 && depth > 0) {
            put("(");
            sum(depth - 1);
            put(")");
        } else if (kind == 1 && depth > 0) {
            put(below(2) == 0 ? "min" : "max", "(");
            sum(depth - 1);
            put(",");
            sum(depth - 1);
            put(")");
        } else if (kind < 4) {
            put(below(3) == 0 ? between(0, 9999) : between(0, 20));
        } else {
            put(new String[] {"weight", "heel", "height", "tiles", "night"}[below(5)]);
        }
    }

    private static boolean wordy(String token) {
        char c = token.isEmpty() ? ' ' : token.charAt(0);
        return c >= 'a' && c <= 'z' || c >= '0' && c <= '9';
    }

    private String spaced() {
        int style = below(3);
        StringBuilder text = new StringBuilder();
        String before = "";
        for (String token : tokens) {
            boolean need = wordy(before) && wordy(token);
            if (style > 1 && below(60) == 0) {
                need = !need;
            }
            for (int k = need ? 1 : 0; k > 0 || style == 1 && below(5) == 0; k--) {
                text.append(below(9) == 0 ? '\n' : ' ');
            }
            text.append(token);
            before = token;
        }
        return text.toString();
    }

    /** A text with one or two tokens changed. */
    String spoiledTokens() {
        right();
        if (below(2) == 0 && tokens.size() < 120) {
            List<String> twice = new ArrayList<>(tokens);
            for (int k = 0; k < twice.size(); k++) {
                tokens.add(twice.get(k));
            }
        }
        for (int k = between(1, 2); k > 0 && !tokens.isEmpty(); k--) {
            spoilOne();
        }
        return spaced();
    }

    private void spoilOne() {
        int at = below(tokens.size());
        switch (below(9)) {
            case 0: tokens.remove(at); break;
            case 1: tokens.add(at, tokens.get(below(tokens.size()))); break;
            case 2: tokens.set(at, tokens.get(below(tokens.size()))); break;
            case 3: tokens.set(at, OWN[below(OWN.length)]); break;
            case 4: tokens.add(at, ODD[below(ODD.length)]); break;
            case 5: tokens.set(at, "" + below(below(2) == 0 ? 120 : 99999)); break;
            case 6: tokens.set(at, "0000" + below(20)); break;
            case 7: tokens.set(at, tokens.get(at) + "abcdef".substring(below(6))); break;
            default:
                for (int k = tokens.size() - 1; k >= at; k--) {
                    tokens.remove(k);
                }
        }
    }

    /** A TEST that opens deep, in a town of one law. */
    String deep() {
        tokens = new ArrayList<>();
        put("owner", "o", ";", "bar", "o", "when");
        int closing = tokens.size();
        boolean inSum = false;
        for (int k = between(4, 8); k > 0; k--) {
            int kind = inSum ? between(2, 3) : below(4);
            if (kind == 0) {
                put("not");
            } else if (kind == 1) {
                put("[");
                closing(closing, "]");
            } else {
                if (!inSum) {
                    closing(closing, "<", "3");
                }
                inSum = true;
                if (kind == 2) {
                    put("(");
                    closing(closing, ")");
                } else {
                    put(below(2) == 0 ? "min" : "max", "(");
                    if (below(2) == 0) {
                        put("heel", ",");
                        closing(closing, ")");
                    } else {
                        closing(closing, ",", "2", ")");
                    }
                }
            }
        }
        put(inSum || below(2) == 0 ? "4" : "all");
        if (!inSum && tokens.get(tokens.size() - 1).equals("4")) {
            put("=", "4");
        }
        tokens.addAll(ends);
        ends.clear();
        put(";");
        if (below(4) == 0) {
            spoilOne();
        }
        return spaced();
    }

    private final List<String> ends = new ArrayList<>();

    private void closing(int from, String... some) {
        ends.addAll(0, List.of(some));
    }

    /** A text with one or two bytes changed, or cut short. */
    String spoiledBytes() {
        StringBuilder text = new StringBuilder(below(4) == 0 ? deep() : right());
        for (int k = between(1, 2); k > 0 && text.length() > 0; k--) {
            int at = below(text.length());
            char c = "az09 \n;([)],+-*/<>=A\u007f\u00ff".charAt(below(22));
            switch (below(4)) {
                case 0: text.deleteCharAt(at); break;
                case 1: text.insert(at, c); break;
                case 2: text.setCharAt(at, c); break;
                default: text.setLength(at);
            }
        }
        return text.toString();
    }

    /** Many short STATEMENTS: about as many as there may be. */
    String many() {
        tokens = new ArrayList<>();
        for (int k = between(78, 83); k > 0; k--) {
            put(below(2) == 0 ? "carry" : "rain", between(1, 20), ";");
        }
        if (below(2) == 0) {
            put(below(2) == 0 ? ODD[below(ODD.length)] : OWN[below(OWN.length)]);
        }
        return spaced();
    }
}
