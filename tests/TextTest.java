/** Promises 1 to 5: a new object, the TAPE, the WEDDING and its FAULTS. */
public final class TextTest {
    private static final String A = "objector a grave 1 minutes 1;";
    private static final String AB = A + "objector b grave 2 minutes 2;";
    private static final String SEVEN = AB + "objector c grave 1 minutes 1;objector d grave 1 minutes 1;objector e grave 1 minutes 1;"
            + "objector f grave 1 minutes 1;objector g grave 1 minutes 1;";

    public static void main(String[] args) {
        newObject();
        feeding();
        ending();
        weddings();
        afresh();
        faultNumbers();
        noTokens();
        misplacedTokens();
        tooMany();
        formulas();
        nesting();
        names();
        amounts();
        reserved();
        Crowd.close("TextTest");
    }

    private static void newObject() {
        Crowd.at("promise 1");
        Objections x = new Objections();
        Crowd.due("NONE", Objections.NONE, -1);
        Crowd.about(x, 0, 0, 0, 0, 100, 0, 0, 0, 0, 0, 0, 0, 0, 0, 0);
        Crowd.due("next", x.next(), -1);
        Crowd.due("dusk", x.dusk(), 0);
        Crowd.due("fits", x.fits(0), 0);
        Crowd.due("undo", x.undo(), false);
        Crowd.due("redo", x.redo(), false);
        Crowd.due("back", x.back(0), -1);
        Crowd.due("odds(0, 1)", x.odds(0, 1), 1);
        Crowd.due("bars", x.bars(), 0);
    }

    private static void feeding() {
        Crowd.at("promise 2");
        Objections x = new Objections();
        for (int i = 1; i <= 79; i++) {
            Crowd.due("feed " + i, x.feed(0x20202020, 0x0a0a0a0a, 0x200a200a, 0x20202020, 0x0a20200a), 20 * i);
        }
        Crowd.due("feed 80", x.feed(0x20202020, 0x20202020, 0x20202020, 0x20202020, 0x62617220), 1600);
        Crowd.due("feed 81", x.feed(0x39393939, 0, 0, 0, 0), -1);
        Crowd.due("about(12)", x.about(12), 1600);
        Crowd.due("end 1599", x.end(1599), 1599);
        Crowd.due("feed above", x.feed(0x39393939, 0, 0, 0, 0), -1);
        Crowd.due("end 1581", x.end(1581), 1581);
        Crowd.due("feed one byte above", x.feed(0, 0, 0, 0, 0), -1);
        Crowd.due("end 1580", x.end(1580), 1580);
        // "bar 123;" and blanks: the highest byte of each number comes first
        Crowd.due("feed to the brim", x.feed(0x62617220, 0x3132333b, 0x20202020, 0x20202020, 0x0a0a0a0a), 1600);
        Crowd.due("wedding", x.wedding(), 0);
        Crowd.due("bar", x.about(4), 123);
        Crowd.due("bytes", x.about(12), 0);
    }

    private static void ending() {
        Crowd.at("promise 3");
        Objections x = new Objections();
        Crowd.due("end(0)", x.end(0), 0);
        Crowd.due("end(1)", x.end(1), -1);
        Crowd.due("end(-1)", x.end(-1), -1);
        Crowd.feed(x, "bar 7;$");
        Crowd.due("end(8)", x.end(8), -1);
        Crowd.due("end(min)", x.end(Integer.MIN_VALUE), -1);
        Crowd.due("end(max)", x.end(Integer.MAX_VALUE), -1);
        Crowd.due("about(12)", x.about(12), 7);
        Crowd.due("end(7)", x.end(7), 7);
        Crowd.due("end(6)", x.end(6), 6);
        Crowd.due("end(7) then", x.end(7), -1);
        Crowd.due("wedding", x.wedding(), 0);
        Crowd.due("bar", x.about(4), 7);
        Crowd.due("the TAPE is empty", x.about(12), 0);
        Crowd.due("no bytes are left", x.end(1), -1);
    }

    private static void weddings() {
        Crowd.at("promise 4");
        Objections x = Crowd.told(AB + "bar 9;draw 5;order 1+1;");
        x.later(3);
        x.hear();
        x.pause(5);
        x.buy(1);
        x.undo();
        x.seen(1, 0, true);
        x.course();
        x.image(0);
        String before = state(x);
        Crowd.due("a faulty one", Crowd.wed(x, "objector z grave 1 minutes 1;bar 0;"), -1);
        Crowd.due("TAPE", x.about(12), 0);
        Crowd.due("all else stays", state(x).equals(before), true);
        Crowd.due("redo stays", x.redo(), true);
        Crowd.due("BOX stays", x.back(0), 6);
        Crowd.due("the same again", Crowd.wed(x, A), 1);
        Crowd.about(x, 1, 0, 0, 0, 100, 0, 1, 0, 0, 0, 0, 3, 0, 0, 0);
        Crowd.due("BOX is empty", x.back(0), -1);
        Crowd.due("undo", x.undo(), false);
        Crowd.due("redo", x.redo(), false);
        Crowd.due("untell", x.untell(0), false);
        Crowd.due("lies", x.lies(0), -1);
        Crowd.due("an empty one", x.wedding(), 0);
        Crowd.due("about(0)", x.about(0), 0);
        Crowd.fine(" \n ", 0, 0);
        Crowd.fine(SEVEN, 7, 0);
        Crowd.fine("objector a grave 00 minutes 0060 stays 0 price 0 late;objector b grave 99\nminutes 1 stays 999 price 99;order(1)or(2);", 2, 4);
        x = Crowd.told("objector\na\ngrave\n5\nminutes\n6\n;\nobjector b grave 7 minutes 8 stays 9 price 10 late;");
        int[] a = {0, 5, 6, 0, 0, 0, 0, 0};
        int[] b = {6, 7, 8, 1, 0, 10, 0, 0};
        for (int i = 0; i < a.length; i++) {
            Crowd.due("objector(0, " + i + ")", x.objector(0, i), a[i]);
            Crowd.due("objector(1, " + i + ")", x.objector(1, i), b[i]);
        }
    }

    private static void afresh() {
        Crowd.at("promise 4, nothing of an earlier text");
        Objections x = Crowd.told(A + "objector b grave 2 minutes 2 stays 3 price 4 late;settles a b;brings a b;joined a b 9;order 0-1;answer 0;bar 3;draw 4;");
        Crowd.due("one with a FAULT", Crowd.wed(x, AB + "settles b a;brings b a;joined a b 9;order 1;answer 0;bar 1;draw 1;$"), -1);
        Crowd.due("a plain one", Crowd.wed(x, AB), 2);
        int[] about = {2, 0, 0, 0, 100, 0, 3, 0};
        int[] b = {0, 2, 2, 1, 0, 0, 0, 0};
        for (int i = 0; i < 8; i++) {
            Crowd.due("about(" + i + ")", x.about(i), about[i]);
            Crowd.due("objector(1, " + i + ")", x.objector(1, i), b[i]);
        }
        Crowd.due("settles", x.objector(0, 6), 0);
        Crowd.due("brings", x.objector(0, 7), 0);
        Crowd.due("order", x.ranks(1), 2);
        Crowd.due("units", x.about(13), 0);
        Crowd.due("answer", x.odds(1, 0), 1);
        x.pause(60);
        Crowd.due("stays", x.objector(1, 0), 0);
        Crowd.due("a plain one", Crowd.wed(x, AB + "bar 4;answer 0;"), 2);
        x.hear();
        x.hear();
        Crowd.due("joined", x.weight(), 3);
        Crowd.due("once each, of a text", Crowd.wed(x, "joined"), -1);
        Crowd.due("once each, of a text", Crowd.wed(x, AB + "joined b a 9;order 1;answer 1;bar 1;draw 1;"), 2);
    }

    private static String state(Objections x) {
        StringBuilder all = new StringBuilder();
        for (int i = 0; i < 15; i++) all.append(x.about(i)).append(' ');
        for (int i = 0; i < 16; i++) all.append(x.objector(i / 8, i % 8)).append(' ');
        return all.append(x.lies(0)).append(x.lies(1)).append(' ').append(x.fits(3)).toString();
    }

    private static void faultNumbers() {
        Crowd.at("promise 5");
        Objections x = new Objections();
        Crowd.due("fault(0) ahead", x.fault(0), 0);
        Crowd.due("fault(1) ahead", x.fault(1), -1);
        Crowd.due("fault(2)", x.fault(2), -1);
        Crowd.due("fault(-1)", x.fault(-1), -1);
        Crowd.wed(x, "bar 5");
        Crowd.due("fault(0)", x.fault(0), 2);
        Crowd.due("fault(1)", x.fault(1), 5);
        Crowd.due("fault(2) then", x.fault(2), -1);
        Crowd.wed(x, "bar 5;");
        Crowd.due("fault(0) of a good one", x.fault(0), 0);
        Crowd.due("fault(1) of a good one", x.fault(1), -1);
    }

    private static void noTokens() {
        Crowd.at("FAULT 1");
        Crowd.faulty(1, "^$");
        Crowd.faulty(1, "^ninelongs");
        Crowd.faulty(1, "bar ^12345;");
        Crowd.faulty(1, "bar ^5a;");
        Crowd.faulty(1, "order 1 + ^2and 3;");
        Crowd.faulty(1, "objector ^abcdefghi grave 1 minutes 1;");
        Crowd.faulty(1, "bar 5^\t;");
        Crowd.faulty(1, "bar 5;^\0");
        Crowd.faulty(1, "bar 5;^\u00ff");
        Crowd.faulty(1, "^Bar 5;");
        Crowd.faulty(1, "bar 5^, draw");
        Crowd.faulty(1, "order 1^!=2;");
        Crowd.faulty(1, "order 1+^grave1grave;".replace("grave1grave", "00000"));
        // the first by its place, whatever stands behind it
        Crowd.faulty(2, "^; $");
        Crowd.faulty(4, "bar ^0 $");
    }

    private static void misplacedTokens() {
        Crowd.at("FAULT 2");
        Crowd.faulty(2, "^;");
        Crowd.faulty(2, "^5;");
        Crowd.faulty(2, "^grave 5;");
        Crowd.faulty(2, "^vicar;");
        Crowd.faulty(2, "bar^");
        Crowd.faulty(2, "bar 5  \n^");
        Crowd.faulty(2, "bar 5 ^draw");
        Crowd.faulty(2, "bar^;");
        Crowd.faulty(2, "bar ^-5;");
        Crowd.faulty(2, "bar ^x;");
        Crowd.faulty(2, "objector ^5 grave 1 minutes 1;");
        Crowd.faulty(2, "objector ^late grave 1 minutes 1;");
        Crowd.faulty(2, "objector a ^5 minutes 1;");
        Crowd.faulty(2, "objector a grave ^minutes 1;");
        Crowd.faulty(2, "objector a grave 1 ^stays 1;");
        Crowd.faulty(2, "objector a grave 1 minutes 1 price 1 ^stays 1;");
        Crowd.faulty(2, "objector a grave 1 minutes 1 late ^price 1;");
        Crowd.faulty(2, "objector a grave 1 minutes 1 late ^late;");
        Crowd.faulty(2, "objector a grave 1 minutes 1 stays 1 ^stays 1;");
        Crowd.faulty(2, "objector a grave 1 minutes 1 stays ^late;");
        Crowd.faulty(2, A + "settles a^;");
        Crowd.faulty(2, A + "settles ^order a;");
        Crowd.faulty(2, AB + "settles a b ^5;");
        Crowd.faulty(2, AB + "joined a b^;");
        Crowd.faulty(2, AB + "joined a ^9;");
        Crowd.faulty(2, "objector^");
    }

    private static void tooMany() {
        Crowd.at("one of a sort too many");
        Crowd.faulty(2, SEVEN + "^objector h grave 1 minutes 1;");
        Crowd.faulty(2, SEVEN + "^objector a grave 100");
        String twelve = "settles a b;settles a c;settles a d;settles a e;settles a f;settles a g;settles b a;settles b c;settles b d;"
                + "settles b e;settles b f;settles b g;";
        Crowd.fine(SEVEN + twelve, 7, 0);
        Crowd.faulty(2, SEVEN + twelve + "^settles c a;");
        Crowd.faulty(2, SEVEN + twelve + "^settles z");
        String six = "brings a b;brings a c;brings a d;brings b a;brings b c;brings c b;";
        Crowd.fine(SEVEN + six, 7, 0);
        Crowd.faulty(2, SEVEN + six + "^brings d a;");
        String joined = "joined a b 1;joined a c 99;joined a d 1;joined b c 1;joined c d 1;joined d b 1;";
        Crowd.fine(SEVEN + twelve + six + joined, 7, 0);
        Crowd.faulty(2, SEVEN + joined + "^joined a e 1;");
        Crowd.faulty(2, "order 1;answer 1;^order 2;");
        Crowd.faulty(2, "answer 1;^answer");
        Crowd.faulty(2, "bar 1;draw 1;^bar 1;");
        Crowd.faulty(2, "draw 0;^draw 0;");
        Crowd.fine("draw 0;bar 1;answer 1;order 1;", 0, 2);
    }

    private static void formulas() {
        Crowd.at("e");
        String thirty = "1+1+1+1+1+1+1+1+1+1+1+1+1+1+1+1+1+1+1+1+1+1+1+1+1+1+1+1+1";
        Crowd.fine("order " + thirty + "+grave;answer " + thirty + "*minute;", 0, 60);
        Crowd.faulty(2, "order 1;answer " + thirty + "+1+^1;");
        Crowd.faulty(2, "order " + thirty + "+(^1);");
        Crowd.faulty(2, "order " + thirty + "+1-^((((((((1;");
        Crowd.fine("order (1);", 0, 2);
        Crowd.fine("order ((grave))+(1);answer not(1);", 0, 7);
        Crowd.faulty(2, "order^;");
        Crowd.faulty(2, "order ^bar;");
        Crowd.faulty(2, "order ^a;");
        Crowd.faulty(2, "order ^+1;");
        Crowd.faulty(2, "order 1+^;");
        Crowd.faulty(2, "order 1 ^1;");
        Crowd.faulty(2, "order 1<2^<3;");
        Crowd.faulty(2, "order 1=2^>3;");
        Crowd.faulty(2, "order 1+^not 2;");
        Crowd.faulty(2, "order 1<^not 2;");
        Crowd.faulty(2, "order (1^;");
        Crowd.faulty(2, "order 1^);");
        Crowd.faulty(2, "order (^);");
        Crowd.faulty(2, "order 1 or ^or 2;");
        Crowd.faulty(2, "order 1 and^;");
        Crowd.faulty(2, "order not^;");
        Crowd.faulty(2, "order 1^");
        Crowd.faulty(2, "order 1 ^late;");
        Crowd.fine("order 1<2 and 3>4 or not not 5=6;", 0, 6);
        Crowd.fine("order (1<2)<3;answer not 1<2;", 0, 6);
    }

    private static void nesting() {
        Crowd.at("within 6 others");
        Crowd.fine("order (((((((1)))))));", 0, 8);
        Crowd.faulty(2, "order (((((((^(1;");
        Crowd.fine("order not not not not not not not 1;", 0, 1);
        Crowd.faulty(2, "order not not not not not not not ^not 1;");
        Crowd.fine("order not (not (not (not 1)));", 0, 4);
        Crowd.faulty(2, "order not (not (not (not ^(1;");
        Crowd.faulty(2, "order (not (not (not (^not 1;");
        Crowd.fine("order not not not not not not not 1 and not not not not not not not 1 or (((((((1)))))));", 0, 10);
        Crowd.fine("order ((((((1))))))+((((((1))))))*((((((not 1))))));", 0, 21);
    }

    private static void names() {
        Crowd.at("FAULTS 3 and 5");
        Crowd.faulty(3, A + "objector ^a grave");
        Crowd.faulty(3, AB + "objector ^a 5;");
        Crowd.faulty(3, A + "settles a ^a;");
        Crowd.faulty(3, A + "brings a ^a;");
        Crowd.faulty(3, A + "joined a ^a 100;");
        Crowd.faulty(3, AB + "settles a b;settles a ^b;");
        Crowd.faulty(3, AB + "brings b a;brings b ^a;");
        Crowd.faulty(3, AB + "joined a b 1;joined a ^b 1;");
        Crowd.faulty(3, AB + "joined a b 1;joined b ^a 0;");
        Crowd.fine(AB + "settles a b;settles b a;brings a b;brings b a;joined b a 1;", 2, 0);
        Crowd.faulty(5, "settles ^a a;");
        Crowd.faulty(5, A + "settles ^b b;");
        Crowd.faulty(5, A + "settles a ^b;" + "objector b grave 1 minutes 1;");
        Crowd.faulty(5, A + "brings a ^ab;");
        Crowd.faulty(5, A + "joined a ^aa 1;");
        Crowd.faulty(5, "settles ^objectr a;");
        Crowd.fine("objector abcdefgh grave 1 minutes 1;objector e grave 1 minutes 1;objector name grave 1 minutes 1;settles abcdefgh e;", 3, 0);
    }

    private static void amounts() {
        Crowd.at("FAULT 4");
        Crowd.faulty(4, "objector a grave ^100 minutes 1;");
        Crowd.faulty(4, "objector a grave 99 minutes ^0;");
        Crowd.faulty(4, "objector a grave 99 minutes ^61;");
        Crowd.faulty(4, "objector a grave 99 minutes 60 stays ^1000;");
        Crowd.faulty(4, "objector a grave 99 minutes 60 stays 999 price ^100;");
        Crowd.faulty(4, AB + "joined a b ^0;");
        Crowd.faulty(4, AB + "joined a b ^100;");
        Crowd.faulty(4, "bar ^0;");
        Crowd.faulty(4, "bar ^1000;");
        Crowd.faulty(4, "draw ^1000;");
        Crowd.faulty(4, "draw ^9999$");
        Crowd.fine("bar 999;draw 999;order 9999;", 0, 1);
        Crowd.fine("bar 1;draw 0;", 0, 0);
    }

    private static void reserved() {
        Crowd.at("words that are no NAMES");
        String[] words = {"objector", "grave", "minutes", "stays", "price", "late", "settles", "brings", "joined", "order", "answer", "bar",
            "draw", "or", "and", "not", "waited", "number", "heard", "minute"};
        for (String word : words) {
            Crowd.faulty(2, "objector ^" + word + " grave 1 minutes 1;");
            Crowd.faulty(2, A + "settles a ^" + word + ";");
        }
        Crowd.fine("objector wedding grave 1 minutes 1;objector line grave 1 minutes 1;objector both grave 1 minutes 1;"
                + "objector one grave 1 minutes 1;objector sum grave 1 minutes 1;objector term grave 1 minutes 1;objector unit grave 1 minutes 1;", 7, 0);
    }
}
