/** Promises 6 to 13, 42 and 43: what OBJECTORS are, the ACTS, UNDO and REDO, BOXES. */
public final class ActsTest {
    // b is heard first (as grave as c, the lesser NUMBER), brings d; c does not stay so long, nor a till d was heard
    private static final String CROWD = "objector a grave 10 minutes 4 stays 6 price 2;objector b grave 20 minutes 3 price 1;"
            + "objector c grave 20 minutes 7 stays 2 price 4;objector d grave 90 minutes 5 late;settles a b;brings b d;joined a c 15;"
            + "bar 40;draw 333;";
    private static final String TWO = "objector a grave 1 minutes 1;objector b grave 1 minutes 1;";

    public static void main(String[] args) {
        objectors();
        orders();
        operators();
        hearings();
        draws();
        answers();
        settling();
        buying();
        pausing();
        trading();
        undoing();
        keptActs();
        boxes();
        Crowd.close("ActsTest");
    }

    private static void objectors() {
        Crowd.at("promise 6");
        Objections x = Crowd.told(CROWD + "settles c a;settles c b;brings d a;brings d b;");
        Crowd.is(x, 0, 0, 0, 6);
        int[][] due = {{0, 10, 4, 0, 0, 2, 2, 0}, {0, 20, 3, 1, 0, 1, 0, 8}, {0, 20, 7, 2, 0, 4, 3, 0}, {6, 90, 5, 3, 0, 0, 0, 3}};
        for (int i = 0; i < 4; i++) {
            for (int j = 0; j < 8; j++) {
                Crowd.due("objector(" + i + ", " + j + ")", x.objector(i, j), due[i][j]);
            }
            Crowd.due("another what", x.objector(i, 8), -2);
            Crowd.due("another what", x.objector(i, -1), -2);
        }
        Crowd.due("none such", x.objector(4, 0), -2);
        Crowd.due("none such", x.objector(-1, 0), -2);
        Crowd.due("none such", x.objector(Integer.MAX_VALUE, 1), -2);
        Crowd.due("none such", x.objector(32, 1), -2);
        x.pause(2);
        Crowd.due("he waited", x.objector(0, 4), 2);
        Crowd.due("he is AWAY", x.objector(3, 4), 0);
        x.pause(1);
        Crowd.is(x, 0, 0, 4, 6);
        Crowd.due("he LEFT", x.objector(2, 4), 0);
        x.hear();
        Crowd.is(x, 0, 1, 4, 0);
        Crowd.due("he waited", x.objector(0, 4), 6);
        Crowd.due("he came now", x.objector(3, 4), 0);
        Crowd.due("he was heard", x.objector(1, 4), 0);
        x.trade(0, 3);
        Crowd.due("NUMBER", x.objector(0, 3), 3);
        Crowd.due("NUMBER", x.objector(3, 3), 0);
        x.buy(0);
        Crowd.is(x, 5, 1, 4, 0);
        Crowd.due("he was BOUGHT", x.objector(0, 4), 0);
    }

    private static void orders() {
        Crowd.at("promise 7");
        Objections x = Crowd.told(CROWD);
        Crowd.due("ranks(0)", x.ranks(0), 10);
        Crowd.due("ranks(2)", x.ranks(2), 20);
        Crowd.due("AWAY", x.ranks(3), -1000000000);
        Crowd.due("none such", x.ranks(4), -1000000000);
        Crowd.due("none such", x.ranks(-1), -1000000000);
        x.hear();
        Crowd.due("heard", x.ranks(1), -1000000000);
        Crowd.due("brought", x.ranks(3), 90);
        x = Crowd.told("objector a grave 7 minutes 5;objector b grave 9 minutes 3;objector c grave 1 minutes 2 late;objector d grave 0 minutes 1;"
                + "brings a c;order grave+minutes*10+waited*100+number*1000+heard*5000+minute*9999;");
        Crowd.due("ranks(0)", x.ranks(0), 57);
        Crowd.due("ranks(1)", x.ranks(1), 1039);
        Crowd.due("ranks(3)", x.ranks(3), 3010);
        x.trade(0, 3);
        Crowd.due("hear", x.hear(), 0);
        x.pause(2);
        Crowd.due("ranks(1)", x.ranks(1), 9 + 30 + 700 + 1000 + 5000 + 7 * 9999);
        Crowd.due("ranks(2)", x.ranks(2), 1 + 20 + 200 + 2000 + 5000 + 7 * 9999);
        Crowd.due("ranks(3)", x.ranks(3), 10 + 700 + 5000 + 7 * 9999);
    }

    private static void order(String e, int due) {
        Crowd.due(e, Crowd.told("objector a grave 7 minutes 5;order " + e + ";").ranks(0), due);
    }

    private static void operators() {
        Crowd.at("promise 7, e");
        order("1-2-3", -4);
        order("2+3*4", 14);
        order("(2+3)*4", 20);
        order("100/7/2", 7);
        order("100/(7/2)", 33);
        order("17%5*2", 4);
        order("(0-7)/2", -3);
        order("(0-7)%3", -1);
        order("7%(0-3)", 1);
        order("5/0", 0);
        order("5%0", 0);
        order("9999*9999*9999", 9999 * 9999 * 9999);
        order("0-2048*1024*1024", Integer.MIN_VALUE);
        order("(0-2048*1024*1024)/(0-1)", Integer.MIN_VALUE);
        order("(0-2048*1024*1024)%(0-1)", 0);
        order("2047*1024*1024+1024*1024+1024*1024", 2047 * 1048576 + 2 * 1048576);
        order("1<2", 1);
        order("2<1", 0);
        order("2<2", 0);
        order("2>2", 0);
        order("3>2", 1);
        order("2=2", 1);
        order("2=3", 0);
        order("1+1<3", 1);
        order("1+(1<3)", 2);
        order("5 or 0", 1);
        order("0 or 0", 0);
        order("5 and 6", 1);
        order("5 and 0", 0);
        order("0-1 and 1", 1);
        order("not 0", 1);
        order("not 5", 0);
        order("not not 5", 1);
        order("not 2<1", 1);
        order("not 1 and 0", 0);
        order("not (1 and 0)", 1);
        order("1 or 0 and 0", 1);
        order("(1 or 0) and 0", 0);
        order("0 and 0 or 1", 1);
        order("not 1 or 1", 1);
        order("grave>minutes", 1);
        order("((((((grave))))))", 7);
        order("5", 5);
        order("0012", 12);
        order("1-(2-(3-(4-(5-(6-(7-8))))))", -4);
    }

    private static void hearings() {
        Crowd.at("promise 8");
        Objections x = new Objections();
        Crowd.due("nobody", x.hear(), -1);
        Crowd.due("no ACT", x.about(8), 0);
        x = Crowd.told(CROWD);
        Crowd.due("hear", x.hear(), 1);
        Crowd.is(x, 0, 1, 4, 0);
        Crowd.due("minute", x.about(1), 3);
        Crowd.due("SEED", x.about(2), (333 * 137 + 71) % 1000);
        Crowd.due("ACTS", x.about(8), 1);
        Crowd.due("hear", x.hear(), 3);
        Crowd.is(x, 4, 1, 4, 1);
        Crowd.due("minute", x.about(1), 8);
        Crowd.due("nobody is left", x.hear(), -1);
        Crowd.due("minute", x.about(1), 8);
        Crowd.due("ACTS", x.about(8), 2);
        // exactly as long as he stays is not more
        x = Crowd.told("objector a grave 2 minutes 5;objector b grave 1 minutes 1 stays 5;");
        x.hear();
        Crowd.is(x, 1, 0);
        x = Crowd.told("objector a grave 2 minutes 6;objector b grave 1 minutes 1 stays 5;");
        x.hear();
        Crowd.is(x, 1, 4);
    }

    private static void draws() {
        Crowd.at("promise 8, draws");
        Objections x = Crowd.told(TWO + "objector c grave 1 minutes 1;objector d grave 1 minutes 1;objector e grave 1 minutes 1;answer 61;");
        int[] seeds = {71, 798, 397, 460, 91};
        int[] sorts = {2, 2, 2, 1, 2};
        for (int i = 0; i < 5; i++) {
            Crowd.due("hear", x.hear(), i);
            Crowd.due("SEED", x.about(2), seeds[i]);
            Crowd.due("sort", x.objector(i, 0), sorts[i]);
        }
        // the rest must be less than the answer
        x = Crowd.told(TWO + "answer 71;draw 0;");
        x.hear();
        Crowd.is(x, 2, 0);
        x = Crowd.told(TWO + "answer 72;draw 0;");
        x.hear();
        Crowd.is(x, 1, 0);
        // 999: 136,863 and 71 more are 136,934; its rest is 34
        x = Crowd.told(TWO + "answer 34;draw 999;");
        x.hear();
        Crowd.due("SEED", x.about(2), 934);
        Crowd.is(x, 2, 0);
    }

    private static void answers() {
        Crowd.at("promise 8, answer");
        // told ahead of being heard: minute 0, nobody heard, waited 0
        Objections x = Crowd.told(TWO + "answer (minute+heard+waited=0)*100;");
        x.hear();
        Crowd.is(x, 1, 0);
        x.hear();
        Crowd.is(x, 1, 2);
        x = Crowd.told(TWO + "answer 0-5;");
        x.hear();
        Crowd.is(x, 2, 0);
        x = Crowd.told(TWO + "answer 9999*9999;");
        x.hear();
        Crowd.is(x, 1, 0);
        // without answer all are ANSWERED, whatever is drawn
        x = Crowd.told(TWO + "draw 4;");
        x.hear();
        Crowd.due("SEED", x.about(2), 619);
        Crowd.is(x, 1, 0);
        x = Crowd.told(TWO + "answer grave*40+number*60;draw 0;");
        x.hear();
        Crowd.is(x, 2, 0);
        x.hear();
        Crowd.is(x, 2, 1);
        // one who STANDS was HEARD, too
        x = Crowd.told(TWO + "objector c grave 1 minutes 1;answer 0;order heard;");
        x.hear();
        x.hear();
        Crowd.due("heard", x.ranks(2), 2);
    }

    private static void settling() {
        Crowd.at("promise 8, settles and brings");
        String three = TWO + "objector c grave 1 minutes 1 late;objector d grave 1 minutes 1 late;";
        // one AWAY is not settled, and is brought by the same hearing
        Objections x = Crowd.told(three + "settles a c;brings a c;settles a b;brings a b;");
        x.hear();
        Crowd.is(x, 1, 3, 0, 6);
        Crowd.due("he came at", x.objector(2, 4), 0);
        // whom is brought later by another one stays what he is
        x = Crowd.told(three + "brings a c;brings b c;brings b a;");
        x.hear();
        x.hear();
        Crowd.is(x, 1, 1, 0, 6);
        Crowd.due("he came ahead", x.objector(2, 4), 1);
        // who STANDS settles likewise
        x = Crowd.told(three + "settles a b;brings a d;answer 0;");
        x.hear();
        Crowd.is(x, 2, 3, 6, 0);
        // one is settled ahead of leaving
        x = Crowd.told("objector a grave 2 minutes 9;objector b grave 1 minutes 1 stays 0;settles a b;");
        x.hear();
        Crowd.is(x, 1, 3);
        // he who came late stays from then on
        x = Crowd.told("objector a grave 2 minutes 9;objector b grave 1 minutes 1 stays 0 late;brings a b;");
        x.hear();
        Crowd.is(x, 1, 0);
        x.pause(1);
        Crowd.is(x, 1, 4);
    }

    private static void buying() {
        Crowd.at("promise 9");
        Objections x = Crowd.told(CROWD);
        Crowd.due("buy(3), AWAY", x.buy(3), -1);
        Crowd.due("buy(4)", x.buy(4), -1);
        Crowd.due("buy(-1)", x.buy(-1), -1);
        Crowd.due("no ACTS", x.about(8), 0);
        Crowd.due("buy(2)", x.buy(2), 4);
        Crowd.due("buy(2) again", x.buy(2), -1);
        Crowd.due("buy(0)", x.buy(0), 6);
        Crowd.is(x, 5, 0, 5, 6);
        Crowd.due("spent", x.about(3), 6);
        Crowd.due("minute", x.about(1), 0);
        Crowd.due("ACTS", x.about(8), 2);
        Crowd.due("SEED", x.about(2), 333);
        x.hear();
        Crowd.due("ANSWERED", x.buy(1), -1);
        Crowd.due("free of price", x.buy(3), 6);
    }

    private static void pausing() {
        Crowd.at("promise 10");
        Objections x = Crowd.told(CROWD);
        Crowd.due("pause(0)", x.pause(0), -1);
        Crowd.due("pause(61)", x.pause(61), -1);
        Crowd.due("pause(-1)", x.pause(-1), -1);
        Crowd.due("pause(min)", x.pause(Integer.MIN_VALUE), -1);
        Crowd.due("nothing", x.about(1) + x.about(8), 0);
        Crowd.due("pause(2)", x.pause(2), 0);
        Crowd.due("pause(1)", x.pause(1), 1);
        Crowd.due("pause(3)", x.pause(3), 0);
        Crowd.is(x, 0, 0, 4, 6);
        Crowd.due("pause(60)", x.pause(60), 1);
        Crowd.is(x, 4, 0, 4, 6);
        Crowd.due("minute", x.about(1), 66);
        Crowd.due("ACTS", x.about(8), 4);
        x = Crowd.told(CROWD);
        Crowd.due("both LEFT", x.pause(7), 2);
        x = Crowd.told(TWO);
        for (int i = 0; i < 16; i++) {
            x.pause(60);
        }
        Crowd.due("999 minutes, if not told", x.pause(39), 0);
        Crowd.due("more than 999", x.pause(1), 2);
        x = new Objections();
        Crowd.due("nobody there", x.pause(60), 0);
        Crowd.due("an ACT", x.about(8), 1);
        Crowd.due("minute", x.about(1), 60);
    }

    private static void trading() {
        Crowd.at("promise 11");
        Objections x = Crowd.told(CROWD);
        Crowd.due("trade(1, 1)", x.trade(1, 1), -1);
        Crowd.due("trade(1, 3)", x.trade(1, 3), -1);
        Crowd.due("trade(3, 1)", x.trade(3, 1), -1);
        Crowd.due("trade(1, 4)", x.trade(1, 4), -1);
        Crowd.due("trade(-1, 1)", x.trade(-1, 1), -1);
        Crowd.due("no ACT", x.about(8), 0);
        Crowd.due("trade(1, 2)", x.trade(1, 2), 2);
        Crowd.due("next", x.next(), 2);
        Crowd.due("trade(0, 1)", x.trade(0, 1), 2);
        Crowd.due("NUMBER", x.objector(1, 3), 0);
        Crowd.due("NUMBER", x.objector(2, 3), 1);
        Crowd.due("next", x.next(), 1);
        Crowd.due("ACTS", x.about(8), 2);
    }

    private static void undoing() {
        Crowd.at("promises 12 and 13");
        Objections x = Crowd.told(CROWD);
        Crowd.due("undo", x.undo(), false);
        Crowd.due("redo", x.redo(), false);
        x.trade(0, 2);
        x.buy(2);
        x.hear();
        x.pause(4);
        Crowd.is(x, 4, 1, 5, 0);
        Crowd.due("undo", x.undo(), true);
        Crowd.is(x, 0, 1, 5, 0);
        Crowd.due("minute", x.about(1), 3);
        Crowd.due("undo", x.undo(), true);
        Crowd.is(x, 0, 0, 5, 6);
        Crowd.due("SEED", x.about(2), 333);
        Crowd.due("came", x.objector(3, 3), 3);
        Crowd.due("undo", x.undo(), true);
        Crowd.due("spent", x.about(3), 0);
        Crowd.due("NUMBER", x.objector(0, 3), 2);
        Crowd.due("undo", x.undo(), true);
        Crowd.due("NUMBER", x.objector(0, 3), 0);
        Crowd.due("undo", x.undo(), false);
        Crowd.due("ACTS", x.about(8) * 10 + x.about(9), 4);
        Crowd.due("redo", x.redo(), true);
        Crowd.due("redo", x.redo(), true);
        Crowd.due("spent", x.about(3), 4);
        Crowd.due("redo", x.redo(), true);
        Crowd.due("SEED", x.about(2), 692);
        Crowd.due("ACTS", x.about(8) * 10 + x.about(9), 31);
        Crowd.due("a call that does nothing", x.pause(0), -1);
        Crowd.due("redo", x.redo(), true);
        Crowd.is(x, 4, 1, 5, 0);
        Crowd.due("redo", x.redo(), false);
        x.undo();
        x.undo();
        Crowd.due("ACTS", x.about(8) * 10 + x.about(9), 22);
        Crowd.due("another ACT", x.pause(1), 0);
        Crowd.due("redo", x.redo(), false);
        Crowd.due("ACTS", x.about(8) * 10 + x.about(9), 30);
    }

    private static void keptActs() {
        Crowd.at("promise 12, 40 ACTS");
        Objections x = Crowd.told(TWO);
        for (int i = 1; i <= 47; i++) {
            x.pause(i);
        }
        Crowd.due("minute", x.about(1), 47 * 48 / 2);
        Crowd.due("ACTS", x.about(8), 40);
        for (int i = 47; i > 7; i--) {
            Crowd.due("undo", x.undo(), true);
            Crowd.due("minute", x.about(1), i * (i - 1) / 2);
        }
        Crowd.due("undo", x.undo(), false);
        Crowd.due("minute", x.about(1), 28);
        Crowd.due("REDO", x.about(9), 40);
        for (int i = 8; i <= 20; i++) {
            Crowd.due("redo", x.redo(), true);
            Crowd.due("minute", x.about(1), i * (i + 1) / 2);
        }
        Crowd.due("ACTS", x.about(8) * 100 + x.about(9), 1327);
        x.pause(1);
        Crowd.due("ACTS", x.about(8) * 100 + x.about(9), 1400);
        for (int i = 0; i < 14; i++) {
            Crowd.due("undo", x.undo(), true);
        }
        Crowd.due("undo", x.undo(), false);
        Crowd.due("minute", x.about(1), 28);
    }

    private static void boxes() {
        Crowd.at("promises 42 and 43");
        Objections x = Crowd.told(CROWD);
        Crowd.due("image(3)", x.image(3), -1);
        Crowd.due("image(-1)", x.image(-1), -1);
        Crowd.due("back(0)", x.back(0), -1);
        Crowd.due("back(3)", x.back(3), -1);
        Crowd.due("back(-1)", x.back(-1), -1);
        Crowd.due("image(0)", x.image(0), 0);
        x.trade(0, 1);
        x.buy(2);
        x.hear();
        x.course();
        x.seen(1, 1, true);
        x.later(5);
        Crowd.due("image(2)", x.image(2), 3);
        Crowd.due("back(1)", x.back(1), -1);
        Crowd.due("ACTS", x.about(8), 3);
        x.pause(60);
        x.undo();
        Crowd.due("back(0)", x.back(0), 0);
        Crowd.is(x, 0, 0, 0, 6);
        Crowd.due("NUMBER", x.objector(0, 3), 0);
        Crowd.due("SEED", x.about(2), 333);
        Crowd.due("spent", x.about(3), 0);
        Crowd.due("ACTS", x.about(8) + x.about(9), 0);
        Crowd.due("undo", x.undo(), false);
        Crowd.due("redo", x.redo(), false);
        Crowd.due("SEEN stays", x.about(10), 1);
        Crowd.due("TIME stays", x.about(11), 5);
        Crowd.row(x, 3);
        x.pause(1);
        Crowd.due("back(2)", x.back(2), 3);
        Crowd.is(x, 0, 1, 5, 0);
        Crowd.due("when he came", x.objector(3, 4), 0);
        Crowd.due("NUMBER", x.objector(0, 3), 1);
        Crowd.due("spent", x.about(3), 4);
        x.pause(2);
        Crowd.due("he came at 3", x.objector(3, 4), 2);
        Crowd.due("image over it", x.image(2), 5);
        x.pause(2);
        Crowd.due("back(2)", x.back(2), 5);
        Crowd.due("back(2) again", x.back(2), 5);
        Crowd.due("image of none such stays nothing", x.image(Integer.MAX_VALUE), -1);
    }
}
