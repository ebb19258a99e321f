/** Promises 4 and 5: town, fault. */
public final class TownTextTest {
    private static final String TWO = "owner o;lot a of o height 1 tiles 2;lot b of o height 1 tiles 2;";
    private static Check check;

    public static void main(String[] args) {
        check = new Check("TownTextTest");
        rightTexts();
        firstBytes();
        numbers();
        names();
        openAtOnce();
        tooMany();
        whatStays();
        check.close();
    }

    private static void right(String text, int statements) {
        TileHeel x = new TileHeel();
        check.due("town of " + text, Check.town(x, text), statements);
        check.due("no fault in " + text, x.fault(0), 0);
        check.due("no place in " + text, x.fault(1), TileHeel.NONE);
    }

    private static void wrong(String text, int fault, int place) {
        TileHeel x = new TileHeel();
        check.due("town of " + text, Check.town(x, text), TileHeel.NONE);
        check.due("fault of " + text, x.fault(0), fault);
        check.due("place in " + text, x.fault(1), place);
    }

    /** The fault is where the mark ! stands in the text, which is taken out. */
    private static void wrongAtMark(int fault, String marked) {
        int place = marked.indexOf('!');
        wrong(marked.substring(0, place) + marked.substring(place + 1), fault, place);
    }

    private static void rightTexts() {
        right("", 0);
        right(" \n ", 0);
        right("owner a;", 1);
        right("\nowner\na ; ", 1);
        right("owner abcdef;", 1);
        right("owner ow;owner lots;owner heel2;".replace("2", "s"), 3);
        right(TWO, 3);
        right(TWO + "inn a beds 9;stork a;gap a b wide 0;", 6);
        right(TWO + "person p weight 99 leap 9 climb 20 heel 9 at a to b;", 4);
        right(TWO + "person p weight 0001 leap 0 climb 0 heel 0 at b to a;", 4);
        right("owner o;lot a of o height 20 tiles 30;lot b of o height 0 tiles 0;", 3);
        right("carry 20;carry 1;rain 0;rain 100;rain 7;", 5);
        right("owner o;toll o 1when all;".replace("1w", "1 w"), 2);
        right("owner o;toll o(1)when[all];", 2);
        right("owner o;bar o when not(1)=1 and[2<3 or 9999>night]or all;", 2);
        right("owner o;toll o min(weight,max(heel,height))*tiles/0-night+1 when not not all;", 2);
    }

    private static void firstBytes() {
        wrongAtMark(1, "!x;");
        wrongAtMark(1, "!;");
        wrongAtMark(1, "!own");
        wrongAtMark(1, "!ownera;");
        wrongAtMark(1, "!7;");
        wrongAtMark(1, "!Owner a;");
        wrongAtMark(1, " \n!\tcarry 5;");
        wrongAtMark(1, "!of a;");
        wrongAtMark(1, "owner!");
        wrongAtMark(1, "owner  !");
        wrongAtMark(1, "owner a!");
        wrongAtMark(1, "owner a!1;");
        wrongAtMark(1, "owner a !b;");
        wrongAtMark(1, "owner !to;");
        wrongAtMark(1, "owner !weight;");
        wrongAtMark(1, "owner weight!s;");
        wrongAtMark(1, "owner abcdef!g");
        wrongAtMark(1, "owner abcdef!ghijkl");
        wrongAtMark(1, "owner !1;");
        wrongAtMark(1, "owner !A;");
        wrongAtMark(1, "owner a!A;");
        wrongAtMark(1, "carry!5;");
        wrongAtMark(1, "carry !;");
        wrongAtMark(1, "carry !a;");
        wrongAtMark(1, "carry !-1;");
        wrongAtMark(1, "carry 5!");
        wrongAtMark(1, "carry 5 !5;");
        wrongAtMark(1, "carry 5!a;");
        wrongAtMark(1, "carry 0005!0;");
        wrongAtMark(1, "carry 1234!567;");
        wrongAtMark(1, "owner o;lot a !o height 1 tiles 1;");
        wrongAtMark(1, "owner o;lot a of o height 1!tiles 1;");
        wrongAtMark(1, "owner o;lot a of o height 1 tiles!1;");
        wrongAtMark(1, "owner o;lot a of o height 1 !tile 1;");
        wrongAtMark(1, TWO + "gap a b wide 3;!gaps");
        wrongAtMark(1, TWO + "inn a !bed 3;");
        wrongAtMark(1, TWO + "person p weight 3 leap 4 climb 5 heel 6 at a !of b;");
        wrongAtMark(1, "owner o;toll o !when all;");
        wrongAtMark(1, "owner o;toll o 1 !all;");
        wrongAtMark(1, "owner o;toll o 1!when all;");
        wrongAtMark(1, "owner o;bar o !all;");
        wrongAtMark(1, "owner o;bar o when !;");
        wrongAtMark(1, "owner o;bar o when 1!;");
        wrongAtMark(1, "owner o;bar o when 1<2!<3;");
        wrongAtMark(1, "owner o;bar o when 1<2!and all;");
        wrongAtMark(1, "owner o;bar o when 1<=2;".replace("<=", "<!="));
        wrongAtMark(1, "owner o;bar o when (1<2);".replace("1<", "1!<"));
        wrongAtMark(1, "owner o;bar o when [1];".replace("1]", "1!]"));
        wrongAtMark(1, "owner o;bar o when all !all;");
        wrongAtMark(1, "owner o;bar o when !-1<2;");
        wrongAtMark(1, "owner o;bar o when 1*!/2<2;");
        wrongAtMark(1, "owner o;bar o when min!1,2)<2;");
        wrongAtMark(1, "owner o;bar o when min !=3;");
        wrongAtMark(1, "owner o;bar o when 2=max!;");
        wrongAtMark(1, "owner o;bar o when min(1!)<2;");
        wrongAtMark(1, "owner o;bar o when max(1,2!,3)<2;");
        wrongAtMark(1, "owner o;bar o when !leap<2;");
        wrongAtMark(1, "owner o;bar o when !weights<2;");
        wrongAtMark(1, "owner o;bar o when 1234!5<2;");
        wrongAtMark(1, "owner o;bar o when tiles !12345<2;");
        wrongAtMark(1, "owner o;bar o when tiles!2<2;");
        wrongAtMark(1, "owner o;bar o when (1!<2");
        wrongAtMark(1, "owner o;bar o when [1<2!");
        wrongAtMark(1, "owner o;bar o when !\u00ff<2;");
    }

    private static void numbers() {
        wrongAtMark(2, "carry !0;");
        wrongAtMark(2, "carry !21;");
        wrongAtMark(2, "carry !9999x");
        wrongAtMark(2, "rain !101;");
        wrongAtMark(2, "owner o;lot a of o height !21 tiles 31;");
        wrongAtMark(2, "owner o;lot a of o height 20 tiles !0031;");
        wrongAtMark(2, TWO + "inn a beds !0;");
        wrongAtMark(2, TWO + "inn a beds !10;");
        wrongAtMark(2, TWO + "gap a b wide !10;");
        wrongAtMark(2, TWO + "person p weight !0 leap 1");
        wrongAtMark(2, TWO + "person p weight !100 leap 1");
        wrongAtMark(2, TWO + "person p weight 99 leap !10");
        wrongAtMark(2, TWO + "person p weight 99 leap 9 climb !21");
        wrongAtMark(2, TWO + "person p weight 99 leap 9 climb 20 heel !10 at a");
    }

    private static void names() {
        wrongAtMark(3, "owner a;owner !a;");
        wrongAtMark(3, "owner a;owner !aA;");
        wrongAtMark(3, "owner a;lot !a of a");
        wrongAtMark(3, "owner a;lot b of !b height 1 tiles 1;");
        wrongAtMark(3, "lot b of !x height 1 tiles 1;");
        wrongAtMark(3, TWO + "owner !a;");
        wrongAtMark(3, TWO + "lot !b of o height 1 tiles 1;");
        wrongAtMark(3, TWO + "inn !o beds 1;");
        wrongAtMark(3, TWO + "inn a beds 1;inn !a beds 2;");
        wrongAtMark(3, TWO + "stork !c;");
        wrongAtMark(3, TWO + "stork a;stork b;stork !a;");
        wrongAtMark(3, TWO + "gap !o a wide 1;");
        wrongAtMark(3, TWO + "gap a !o wide 1;");
        wrongAtMark(3, TWO + "gap a !a wide 1;");
        wrongAtMark(3, TWO + "gap a b wide 1;gap a !b wide 1;");
        wrongAtMark(3, TWO + "gap a b wide 1;gap b !a wide 1;");
        wrongAtMark(3, TWO + "person !a weight 1");
        wrongAtMark(3, TWO + "person p weight 1 leap 1 climb 1 heel 1 at !p to a;");
        wrongAtMark(3, TWO + "person p weight 1 leap 1 climb 1 heel 1 at a to !a;");
        wrongAtMark(3, TWO + "person p weight 1 leap 1 climb 1 heel 1 at a to !o;");
        wrongAtMark(3, TWO + "person p weight 1 leap 1 climb 1 heel 1 at a to b;owner !p;");
        wrongAtMark(3, TWO + "toll !a 1 when all;");
        wrongAtMark(3, "bar !o when all;");
    }

    private static void openAtOnce() {
        right("owner o;bar o when not not not not not not all;", 2);
        wrongAtMark(4, "owner o;bar o when not not not not not not !not all;");
        right("owner o;bar o when [[[[[[all]]]]]];", 2);
        wrongAtMark(4, "owner o;bar o when [[[[[[![all]]]]]]];");
        right("owner o;toll o ((((((1)))))) when ((((((1))))))=1;", 2);
        wrongAtMark(4, "owner o;toll o ((((((!(1))))))) when all;");
        right("owner o;toll o ((1))+((1)) when not [((min(1,(2))))=1] and not [[[[[all]]]]];", 2);
        wrongAtMark(4, "owner o;bar o when not [((min(1,(!(2)))))=1];");
        wrongAtMark(4, "owner o;bar o when not [(((min(1,max!(1,2)))))=1];".replace("(((min", "((max((1),min"));
        wrongAtMark(4, "owner o;bar o when [[[[[not !(1)=1]]]]];");
        right("owner o;bar o when [[[[[not 1=1 and (1)=1]]]]];", 2);
        wrongAtMark(1, "owner o;bar o when [[[[[[all!(");
    }

    private static void tooMany() {
        String five = "owner a;owner b;owner c;owner d;owner e;";
        right(five, 5);
        wrongAtMark(5, five + "!owner f;");
        wrongAtMark(5, five + "!owner");
        wrongAtMark(1, five + "!ownerf;");
        StringBuilder lots = new StringBuilder(five);
        for (char c = 'f'; c < 'p'; c++) {
            lots.append("lot ").append(c).append(" of a height 0 tiles 1;");
        }
        right(lots.toString(), 15);
        wrongAtMark(5, lots + " !lot q of");
        StringBuilder gaps = new StringBuilder(lots);
        int count = 0;
        for (char c = 'f'; c < 'p'; c++) {
            for (char d = (char) (c + 1); d < 'p' && count < 20; d++) {
                gaps.append("gap ").append(c).append(' ').append(d).append(" wide 1;");
                count++;
            }
        }
        right(gaps.toString(), 35);
        wrongAtMark(5, gaps + "!gap n o wide 1;");
        StringBuilder persons = new StringBuilder(TWO);
        for (char c = 'p'; c < 'v'; c++) {
            persons.append("person ").append(c).append(" weight 1 leap 1 climb 1 heel 1 at a to b;");
        }
        right(persons.toString(), 9);
        wrongAtMark(5, persons + "!person w weight 0");
        String laws = "owner o;bar o when all;toll o 1 when all;bar o when all;toll o 1 when all;"
            + "bar o when all;toll o 1 when all;bar o when all;toll o 1 when all;";
        right(laws, 9);
        wrongAtMark(5, laws + "!toll o 1 when all;");
        wrongAtMark(5, laws + "!bar x");
        String eighty = "rain 5;carry 5;".repeat(40);
        right(eighty, 80);
        right(eighty + " \n", 80);
        wrongAtMark(5, eighty + "!rain 5;");
        wrongAtMark(5, eighty + " !%");
        wrongAtMark(5, eighty + "!;");
        wrongAtMark(1, eighty.substring(0, eighty.length() - 1) + "!");
    }

    private static void whatStays() {
        TileHeel x = new TileHeel();
        check.due("fault ahead of any", x.fault(0), 0);
        check.due("place ahead of any", x.fault(1), TileHeel.NONE);
        check.due("another what", x.fault(2), TileHeel.NONE);
        check.due("another what", x.fault(-1), TileHeel.NONE);
        Check.town(x, TWO + "gap a b wide 1;person p weight 11 leap 1 climb 1 heel 1 at a to b;rain 100;carry 5;");
        check.due("he goes", x.go(0), 0);
        check.due("snow", x.snow(3), 0);
        check.due("wrong town", Check.town(x, "owner a;lot b of a height 5 tiles 5;carry 7;owner a;"), TileHeel.NONE);
        check.due("owners stay", x.has(0), 1);
        check.due("lots stay", x.has(1), 2);
        check.due("carry stays", x.has(5), 5);
        check.due("snow stays", x.has(8), 3);
        check.due("led stays", x.has(11), 1);
        check.due("acts stay", x.has(12), 2);
        check.due("he stays", x.person(0, 4), 1);
        check.due("fault", x.fault(0), 3);
        check.due("the tape went", x.end(1), false);
        check.due("undo", x.undo(), true);
        x.night();
        check.due("a right town", Check.town(x, TWO), 3);
        for (int what : new int[] {2, 3, 4, 6, 7, 8, 11, 12}) {
            check.due("begun anew: has(" + what + ")", x.has(what), 0);
        }
        check.due("fault is gone", x.fault(0), 0);
        check.due("place is gone", x.fault(1), TileHeel.NONE);
        check.due("carry as without", x.has(5), 5);
        check.due("purse at first", x.purse(0), 0);
        check.due("nothing can be undone", x.undo(), false);
        check.due("nothing is told", Check.town(x, ""), 0);
        check.due("nobody is there", x.has(0) + x.has(1), 0);
    }
}
