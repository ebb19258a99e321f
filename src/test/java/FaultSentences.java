/** Terms I: the OWN WORDS and the FAULTS of a text. */
final class FaultSentences {
    private static final String OWNER = TextChecks.OWNER;
    private static final String TWO = TextChecks.TWO;
    private static final String PERSON = TextChecks.PERSON;
    /** A town with each kind of STATEMENT, its words, numbers and signs apart. */
    private static final String ALL_KINDS = "owner o ; lot a of o height 1 tiles 2 ; lot b of o height 3 tiles 4 ; "
        + "inn a beds 5 ; stork b ; gap a b wide 6 ; person p weight 7 leap 8 climb 9 heel 1 at a to b ; carry 2 ; "
        + "rain 3 ; toll o min ( weight , 4 ) * 5 - ( heel + 6 ) / max ( height , 7 ) when not [ tiles < 8 or all ] "
        + "and night = 9 ; bar o when 1 > 2 ; ";
    /** A # stands where a NAME is asked, and what goes on behind it does not matter. */
    private static final String[] NAME_PLACES = {
        "owner #", OWNER + "lot #", OWNER + "lot a of #", TWO + "inn #", TWO + "stork #", TWO + "gap #", TWO + "gap a #",
        TWO + "person #", TWO + "person p weight 1 leap 1 climb 1 heel 1 at #",
        TWO + "person p weight 1 leap 1 climb 1 heel 1 at a to #", OWNER + "toll #", OWNER + "bar #"};
    private static final String[] NUMBER_PLACES = {
        OWNER + "lot a of o height #", OWNER + "lot a of o height 1 tiles #", TWO + "inn a beds #",
        TWO + "gap a b wide #", TWO + "person p weight #", TWO + "person p weight 1 leap #",
        TWO + "person p weight 1 leap 1 climb #", TWO + "person p weight 1 leap 1 climb 1 heel #", "carry #", "rain #"};
    private static final String[] PART_PLACES = {
        OWNER + "toll o #", OWNER + "toll o 1+#", OWNER + "toll o 1*#", OWNER + "toll o (#", OWNER + "toll o min(#",
        OWNER + "toll o max(1,#", OWNER + "bar o when #", OWNER + "bar o when not #", OWNER + "bar o when [#",
        OWNER + "bar o when 1<#"};

    private final Ledger ledger;
    private final TextChecks texts;

    private FaultSentences(Ledger ledger) {
        this.ledger = ledger;
        texts = new TextChecks(ledger);
    }

    static void hold(Ledger ledger) {
        FaultSentences all = new FaultSentences(ledger);
        ledger.section("Terms");
        all.ownWords();
        all.firstBytes();
        all.tooSoon();
        all.numbersAndNames();
        all.openAtOnce();
        all.tooMany();
    }

    private void ownWords() {
        ledger.sentence("OWN WORDS: owner, lot, of, height, tiles, inn, beds, stork, gap, wide, person, weight, leap, "
            + "climb, heel, at, to, toll, bar, when, carry, rain, night, or, and, not, all, min, max.");
        for (String word : TextChecks.OWN_WORDS) {
            texts.wrongAtMark(1, "owner !" + word + ";");
        }
        // words of the document, or near to those above, that are none of them
        for (String word : new String[] {
            "tile", "lots", "owners", "snow", "fire", "hole", "bed", "on", "is", "no", "xor", "patch", "seed", "name", "leave"}) {
            texts.right("owner " + word + ";", 1);
        }
    }

    private void firstBytes() {
        ledger.sentence("FAULTS, the first along the text:");
        texts.wrongAtMark(2, "carry !0;rain 101;");
        texts.wrongAtMark(2, "carry 1;rain !101;x");
        texts.wrongAtMark(3, TWO + "stork !o;carry 0;");
        texts.wrongAtMark(1, TWO + "!x;stork o;");
        texts.wrongAtMark(4, OWNER + "bar o when [[[[[[![x;");
        texts.wrongAtMark(5, TextChecks.FIVE_OWNERS + "!owner o;");
        texts.wrongAtMark(2, "rain 5;".repeat(79) + "rain !101;rain 5;");

        ledger.sentence("1 the first byte with which no such text goes on (words and numbers whole, at their first byte;");
        for (String marked : new String[] {
            "!x;", "!own", "!owners a;", "!persond a;", "!persondddd a;", "!7;", "!Owner a;", "!of a;", "!%", "owner a !b;", "owner a !5;", "owner a;!;",
            "carry !a;", "carry !-1;", "carry 5 !77777;", "carry 5 !abcdefgh;", OWNER + "lot a !off o;",
            OWNER + "lot a of o !tiles 1;", OWNER + "lot a of o height 1 !tile 1;", OWNER + "lot a of o !heightd 1;", TWO + "person p !weighth 1;",
            OWNER + "toll o !heightl when all;", TWO + "inn a !bed 3;",
            TWO + "gap a b !widely 3;", TWO + PERSON.replace(" to b", " !of b"), OWNER + "toll o 1 !whence all;",
            OWNER + "toll o !weights when all;", OWNER + "bar o when !none;", OWNER + "bar o when all !nor all;",
            OWNER + "bar o when 1!&2;", OWNER + "bar o when all!,all;"}) {
            texts.wrongAtMark(1, marked);
        }

        ledger.sentence("where a NAME is asked, an OWN WORD so, a 7th letter at itself;");
        for (String place : NAME_PLACES) {
            texts.wrongAtMark(1, place.replace("#", "!to"));
            texts.wrongAtMark(1, place.replace("#", " \n!weight;"));
            texts.wrongAtMark(1, place.replace("#", "bcdefg!h"));
            texts.wrongAtMark(1, place.replace("#", "weight!s"));
            texts.wrongAtMark(1, place.replace("#", " bcdefg!hijkl;"));
            texts.wrongAtMark(1, place.replace("#", "!7"));
            texts.wrongAtMark(1, place.replace("#", "!;"));
        }

        ledger.sentence("where a number is asked, a 5th digit at itself;");
        for (String place : NUMBER_PLACES) {
            texts.wrongAtMark(1, place.replace("#", "0001!0"));
            texts.wrongAtMark(1, place.replace("#", " \n9999!9;"));
            texts.wrongAtMark(1, place.replace("#", "0001!000000"));
            texts.wrong(1, place.replace("#", "0001"), place.length() + 3);
            texts.wrongAtMark(1, place.replace("#", "!a"));
            texts.wrongAtMark(1, place.replace("#", "!;"));
        }
        for (String place : PART_PLACES) {
            texts.wrongAtMark(1, place.replace("#", "0001!0"));
            texts.wrongAtMark(1, place.replace("#", " 9999!99"));
            texts.wrong(1, place.replace("#", "9999"), place.length() + 3);
        }
    }

    private void tooSoon() {
        ledger.sentence("at the text's length, if it ends too soon);");
        String[] tokens = ALL_KINDS.trim().split(" ");
        StringBuilder text = new StringBuilder();
        int statements = 0;
        for (String token : tokens) {
            text.append(token);
            if (token.equals(";")) {
                statements++;
                texts.right(text.toString(), statements);
                texts.right(text + " \n", statements);
            } else {
                texts.wrong(1, text.toString(), text.length());
                texts.wrong(1, text + " \n ", text.length() + 3);
            }
            text.append(' ');
        }
    }

    private void numbersAndNames() {
        ledger.sentence("2 a number that can't be, at it;");
        for (String place : NUMBER_PLACES) {
            texts.wrongAtMark(2, place.replace("#", "!101"));
            texts.wrongAtMark(2, place.replace("#", " \n !9999;"));
        }
        texts.wrongAtMark(2, "carry !0021;");
        texts.wrongAtMark(2, "carry !0000;");
        texts.right("carry 0020;", 1);
        texts.right(OWNER + "toll o 9999 when 0000<9999;", 2);

        ledger.sentence("3 a NAME to be given that is there already,");
        for (String kind : new String[] {"owner !", "lot !", "person !"}) {
            texts.wrongAtMark(3, TWO + PERSON + kind + "o");
            texts.wrongAtMark(3, TWO + PERSON + kind.replace("!", " \n!") + "b;");
            texts.wrongAtMark(3, TWO + PERSON + kind + "p;");
        }

        ledger.sentence("one that is none of what is asked,");
        for (String place : new String[] {"lot c of !", "toll !", "bar !"}) {
            for (String name : new String[] {"a", "p", "x"}) {
                texts.wrongAtMark(3, TWO + PERSON + place + name);
            }
        }
        for (String place : new String[] {
            "inn !", "stork !", "gap !", "gap a !", "person q weight 1 leap 1 climb 1 heel 1 at !",
            "person q weight 1 leap 1 climb 1 heel 1 at a to !"}) {
            for (String name : new String[] {"o", "p", "x"}) {
                texts.wrongAtMark(3, TWO + PERSON + place + name);
            }
        }

        ledger.sentence("or can't be again (an inn, a stork told already, the second LOT of a GAP: the same one, or two "
            + "that have a GAP; the LOT a PERSON goes to: the one it is at), at it;");
        texts.wrongAtMark(3, TWO + "inn a beds 1;inn b beds 2;inn !a");
        texts.wrongAtMark(3, TWO + "inn b beds 9;inn !b beds 9;");
        texts.wrongAtMark(3, TWO + "stork a;stork b;stork !a");
        texts.wrongAtMark(3, TWO + "gap a !a");
        texts.wrongAtMark(3, TWO + "gap b !b wide 0;");
        texts.wrongAtMark(3, TWO + "gap a b wide 0;gap a !b");
        texts.wrongAtMark(3, TWO + "gap a b wide 0;gap b !a wide 0;");
        texts.wrongAtMark(3, TWO + "person p weight 1 leap 1 climb 1 heel 1 at a to !a");
        texts.wrongAtMark(3, TWO + "person p weight 1 leap 1 climb 1 heel 1 at b to !b;");
    }

    private void openAtOnce() {
        ledger.sentence("4 the 7th ( [ not that is open at once (not until its FACT ends), at it;");
        String six = "not not not not not not ";
        texts.right(OWNER + "bar o when " + six + "all;", 2);
        texts.right(OWNER + "bar o when " + six + "all and " + six + "1=1 or " + six + "all;", 2);
        texts.wrongAtMark(4, OWNER + "bar o when " + six + "!not all;");
        texts.wrongAtMark(4, OWNER + "bar o when " + six + "![all];");
        texts.wrongAtMark(4, OWNER + "bar o when " + six + "!(1)=1;");
        texts.wrongAtMark(4, OWNER + "bar o when " + six + "1=!(1);");
        texts.wrongAtMark(4, OWNER + "bar o when " + six + "min!(1,2)=1;");
        texts.right(OWNER + "bar o when [[[[[[all]]]]]]and[[[[[[all]]]]]];", 2);
        texts.wrongAtMark(4, OWNER + "bar o when [[[[[[![all]]]]]]];");
        texts.wrongAtMark(4, OWNER + "bar o when [[[[[[!not all]]]]]];");
        texts.wrongAtMark(4, OWNER + "bar o when [[[[[[!(1)=1]]]]]];");
        texts.right(OWNER + "bar o when [[[[[not all and not all and (1)=(1)]]]]];", 2);
        texts.wrongAtMark(4, OWNER + "bar o when [[[[[not !(1)=1]]]]];");
        texts.wrongAtMark(4, OWNER + "bar o when [[[[[not 1=!(1)]]]]];");
        texts.right(OWNER + "toll o ((((((1))))))*((((((1)))))) when ((((((1))))))=((((((1))))));", 2);
        texts.wrongAtMark(4, OWNER + "toll o ((((((!(1))))))) when all;");
        texts.wrongAtMark(4, OWNER + "toll o ((((((max!(1,2))))))) when all;");
        texts.right(OWNER + "toll o min(max(min(max(min(max(1,2),3),4),5),6),max(7,8)) when all;", 2);
        texts.wrongAtMark(4, OWNER + "toll o min(max(min(max(min(max(min!(1,2),3),4),5),6),7),8) when all;");
        texts.wrongAtMark(4, OWNER + "toll o min(1,max(2,min(3,max(4,min(5,max(6,min!(7,8))))))) when all;");
        texts.right(OWNER + "bar o when not [not [((1))=1 and ((1))=1]];", 2);
        texts.wrongAtMark(4, OWNER + "bar o when not [not [((!(1)))=1]];");
        // where it can't stand it is the first byte with which no such text goes on
        texts.wrongAtMark(1, OWNER + "bar o when [[[[[[all!(");
        texts.wrongAtMark(1, OWNER + "bar o when [[[[[[1<!not");
        texts.wrongAtMark(1, OWNER + "toll o ((((((!not");
        texts.wrongAtMark(1, OWNER + "toll o ((((((min !1");
        texts.wrongAtMark(1, OWNER + "bar o when [[[[[[1<max !;");
    }

    private void tooMany() {
        ledger.sentence("5 one too many of a kind,");
        String bar = "bar o when all;";
        for (String behind : new String[] {"", " u;", ";", "%", " 77777"}) {
            texts.wrongAtMark(5, TextChecks.FIVE_OWNERS + " \n!owner" + behind);
            texts.wrongAtMark(5, TextChecks.lots(10) + "!lot" + behind);
            texts.wrongAtMark(5, TextChecks.gaps(20) + "!gap" + behind);
            texts.wrongAtMark(5, TextChecks.persons(6) + "!person" + behind);
            texts.wrongAtMark(5, OWNER + bar.repeat(8) + "!bar" + behind);
            texts.wrongAtMark(5, OWNER + bar.repeat(8) + "!toll" + behind);
        }
        texts.wrongAtMark(1, TextChecks.FIVE_OWNERS + "!owners u;");
        texts.right(TextChecks.lots(10) + storks(), 31);
        texts.right("carry 1;".repeat(30) + "rain 1;".repeat(50), 80);

        ledger.sentence("an 81st STATEMENT (whatever stands there), at its first byte.");
        String eighty = "carry 1;".repeat(40) + "rain 1;".repeat(40);
        texts.right(eighty, 80);
        texts.right(eighty + " \n ", 80);
        for (String behind : new String[] {"rain 1;", "owner a;", "x", "%", ";", "7", "\0", "\u00ff", "("}) {
            texts.wrongAtMark(5, eighty + "!" + behind);
            texts.wrongAtMark(5, eighty + " \n!" + behind);
        }
        texts.wrongAtMark(1, eighty.substring(0, eighty.length() - 1) + "!");
        texts.wrongAtMark(1, eighty.substring(0, eighty.length() - 7) + "!%");
    }

    /** An inn and a stork for each of ten lots: of these there may be as many as there are lots. */
    private static String storks() {
        StringBuilder text = new StringBuilder();
        for (char c = 'a'; c < 'k'; c++) {
            text.append("stork l").append(c).append(";inn l").append(c).append(" beds 1;");
        }
        return text.toString();
    }
}
