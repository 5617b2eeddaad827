/** Promises 14 to 23, 27, 28 and 31 to 35: what will be, and what would be best. */
public final class AheadTest {
    private static final String CROWD = "objector a grave 10 minutes 4 stays 6 price 2;objector b grave 20 minutes 3 price 1;"
            + "objector c grave 20 minutes 7 stays 2 price 4;objector d grave 90 minutes 5 late;settles a b;brings b d;joined a c 15;"
            + "bar 40;draw 333;";
    private static final String THREE = "objector a grave 5 minutes 10 price 3;objector b grave 5 minutes 20 price 3;"
            + "objector c grave 5 minutes 30 price 6;";

    public static void main(String[] args) {
        nextOnes();
        queues();
        courses();
        answeredAhead();
        soonest();
        soonestOfLikeOnes();
        firstOnes();
        purchases();
        purchasesOfLikeOnes();
        boasts();
        boastsBySum();
        gains();
        crowds();
        tarries();
        swaps();
        begun();
        upsets();
        lying();
        nothingIsDone();
        Crowd.close("AheadTest");
    }

    private static void nextOnes() {
        Crowd.at("promise 14");
        Objections x = new Objections();
        Crowd.due("nobody", x.next(), -1);
        x = Crowd.told(CROWD);
        Crowd.due("next", x.next(), 1);
        x.trade(1, 2);
        Crowd.due("the least NUMBER", x.next(), 2);
        x.buy(2);
        Crowd.due("next", x.next(), 1);
        x = Crowd.told(THREE + "order 0-minutes;");
        Crowd.due("the greatest, below 0", x.next(), 0);
        x = Crowd.told("objector a grave 9 minutes 1 late;");
        Crowd.due("AWAY", x.next(), -1);
    }

    private static void queues() {
        Crowd.at("promise 15");
        Objections x = Crowd.told(CROWD);
        Crowd.due("queue", x.queue(), 3);
        Crowd.row(x, 1, 2, 0);
        x.trade(1, 2);
        Crowd.due("queue", x.queue(), 3);
        Crowd.row(x, 2, 1, 0);
        x.buy(1);
        Crowd.row(x, 2, 1, 0);
        Crowd.due("queue", x.queue(), 2);
        Crowd.row(x, 2, 0);
        x.pause(60);
        Crowd.due("queue", x.queue(), 0);
        Crowd.row(x);
        // by what is now: nobody is heard between
        x = Crowd.told(THREE + "order heard*number+minutes*(heard=0);");
        Crowd.due("queue", x.queue(), 3);
        Crowd.row(x, 2, 1, 0);
    }

    private static void courses() {
        Crowd.at("promises 16 to 19");
        Objections x = Crowd.told(CROWD);
        Crowd.due("dusk", x.dusk(), 8);
        Crowd.due("when(0)", x.when(0), -1);
        Crowd.due("when(1)", x.when(1), 0);
        Crowd.due("when(2)", x.when(2), -1);
        Crowd.due("when(3)", x.when(3), 3);
        Crowd.due("when(4)", x.when(4), -1);
        Crowd.due("when(-1)", x.when(-1), -1);
        Crowd.due("course", x.course(), 2);
        Crowd.row(x, 1, 3);
        Crowd.due("leavers", x.leavers(), 5);
        x.pause(3);
        // c LEFT; b from 3 to 6, d to 11; a waited 6 by then, not more than he stays, but 11 in the end
        Crowd.due("leavers", x.leavers(), 1);
        Crowd.due("dusk", x.dusk(), 11);
        Crowd.due("when(3)", x.when(3), 6);
        x.hear();
        Crowd.due("when(1), heard", x.when(1), -1);
        x.hear();
        Crowd.due("dusk, nobody WAITS", x.dusk(), 11);
        Crowd.due("leavers", x.leavers(), 0);
        Crowd.due("course", x.course(), 0);
        Crowd.row(x);
        // one who is brought and leaves does not WAIT now
        x = Crowd.told("objector a grave 9 minutes 1;objector b grave 8 minutes 5;objector c grave 1 minutes 1 stays 2 late;brings a c;");
        Crowd.due("leavers", x.leavers(), 0);
        Crowd.due("dusk", x.dusk(), 6);
        x.hear();
        Crowd.due("leavers then", x.leavers(), 4);
        // settled ones do not leave
        x = Crowd.told("objector a grave 9 minutes 9;objector b grave 1 minutes 5 stays 3;settles a b;");
        Crowd.due("leavers", x.leavers(), 0);
    }

    private static void answeredAhead() {
        Crowd.at("promises 16 to 18, all ANSWERED");
        // whatever is drawn, and heard counts
        Objections x = Crowd.told(THREE + "answer 0;order heard*minutes-minutes*(heard=0);");
        Crowd.due("course", x.course(), 3);
        Crowd.row(x, 0, 2, 1);
        Crowd.due("weight", x.weight(), 0);
        // by waited and minute as they will be
        x = Crowd.told(THREE + "order (minute<10)*number+(minute>9)*(0-number);");
        x.course();
        Crowd.row(x, 2, 0, 1);
        Crowd.due("when(1)", x.when(1), 40);
        Crowd.due("dusk", x.dusk(), 60);
    }

    private static void soonest() {
        Crowd.at("promise 20");
        Objections x = Crowd.told(CROWD);
        Crowd.due("soonest", x.soonest(), 4);
        Crowd.row(x, 0);
        x.buy(0);
        // b and d: 8; c, b, d: 15
        Crowd.due("soonest", x.soonest(), 8);
        Crowd.row(x, 1, 3);
        x.hear();
        x.hear();
        Crowd.due("nobody WAITS", x.soonest(), 8);
        Crowd.row(x);
        // the one who settles all comes last by TURNS
        x = Crowd.told(THREE + "objector d grave 0 minutes 9;settles d a;settles d b;settles d c;");
        Crowd.due("dusk", x.dusk(), 69);
        Crowd.due("soonest", x.soonest(), 9);
        Crowd.row(x, 3);
        // who is heard first waits out the other
        x = Crowd.told("objector a grave 9 minutes 5;objector b grave 8 minutes 6 stays 3;objector c grave 7 minutes 4 stays 5;");
        Crowd.due("soonest", x.soonest(), 5 + 4);
        Crowd.row(x, 0, 2);
    }

    private static void soonestOfLikeOnes() {
        Crowd.at("promise 20, of like ones the first row");
        Objections x = Crowd.told(THREE + "objector d grave 1 minutes 1;objector e grave 99 minutes 1;objector f grave 1 minutes 1;objector g grave 1 minutes 1;");
        Crowd.due("soonest", x.soonest(), 64);
        Crowd.row(x, 0, 1, 2, 3, 4, 5, 6);
        x.trade(0, 6);
        Crowd.due("soonest", x.soonest(), 64);
        Crowd.row(x, 0, 1, 2, 3, 4, 5, 6);
        // b brings c who stays 10: heard behind a (10) he goes, ahead of a as well, if a is heard next
        x = Crowd.told("objector a grave 1 minutes 11;objector b grave 1 minutes 2;objector c grave 1 minutes 9 stays 10 late;brings b c;");
        Crowd.due("soonest", x.soonest(), 13);
        Crowd.row(x, 1, 0);
    }

    private static void firstOnes() {
        Crowd.at("promise 21");
        Objections x = new Objections();
        Crowd.due("nobody", x.first(0), -1);
        Crowd.due("nobody", x.first(1), -1);
        x = Crowd.told(CROWD);
        Crowd.due("first(0)", x.first(0), 0);
        Crowd.due("first(1)", x.first(1), 4);
        Crowd.due("first(2)", x.first(2), -1);
        Crowd.due("first(-1)", x.first(-1), -1);
        x.buy(0);
        Crowd.due("first(0)", x.first(0), 1);
        Crowd.due("first(1)", x.first(1), 8);
        x = Crowd.told(THREE);
        Crowd.due("of like ones the first", x.first(0), 0);
        // only the first is chosen: behind a comes c by his TURN, and b goes; SOONEST is a, then b, and c goes
        x = Crowd.told("objector a grave 1 minutes 5;objector b grave 2 minutes 6 stays 30;objector c grave 3 minutes 40 stays 10;settles b a;");
        Crowd.due("soonest", x.soonest(), 11);
        Crowd.due("first(0), as soon as by c", x.first(0), 0);
        Crowd.due("first(1)", x.first(1), 45);
        // by TURNS b, c, a; with a first c goes
        x = Crowd.told("objector a grave 0 minutes 9;objector b grave 9 minutes 3;objector c grave 8 minutes 4 stays 8;");
        Crowd.due("dusk", x.dusk(), 16);
        Crowd.due("first(0)", x.first(0), 0);
        Crowd.due("first(1)", x.first(1), 12);
    }

    private static void purchases() {
        Crowd.at("promise 22");
        Objections x = Crowd.told(CROWD);
        int[][] due = {{9999, 0, 0}, {8, 0, 0}, {7, 1, 2}, {6, 5, 6}, {4, 5, 6}, {3, 7, 7}, {0, 7, 7}};
        for (int[] row : due) {
            Crowd.due("purchase(" + row[0] + ", 0)", x.purchase(row[0], 0), row[1]);
            Crowd.due("purchase(" + row[0] + ", 1)", x.purchase(row[0], 1), row[2]);
        }
        Crowd.due("minute -1", x.purchase(-1, 0), -1);
        Crowd.due("minute 10000", x.purchase(10000, 0), -1);
        Crowd.due("what 2", x.purchase(9, 2), -1);
        Crowd.due("what -1", x.purchase(9, -1), -1);
        Crowd.due("nothing is spent", x.about(3), 0);
        x.pause(5);
        Crowd.due("all are not enough", x.purchase(4, 0), -1);
        Crowd.due("all are not enough", x.purchase(4, 1), -1);
        Crowd.due("all are enough", x.purchase(5, 1), 3);
        x = new Objections();
        Crowd.due("nobody", x.purchase(0, 0), 0);
        x.pause(5);
        Crowd.due("nobody, too late", x.purchase(4, 0), -1);
    }

    private static void purchasesOfLikeOnes() {
        Crowd.at("promise 22, of like ones");
        Objections x = Crowd.told(THREE);
        // 60 in all; a and b cost 6 together, c alone as well: the fewest
        Crowd.due("purchase(30, 0)", x.purchase(30, 0), 6);
        Crowd.due("purchase(30, 1)", x.purchase(30, 1), 4);
        Crowd.due("purchase(50, 1)", x.purchase(50, 1), 1);
        Crowd.due("purchase(40, 1)", x.purchase(40, 1), 2);
        Crowd.due("purchase(20, 1)", x.purchase(20, 1), 5);
        Crowd.due("purchase(10, 1)", x.purchase(10, 1), 6);
        x = Crowd.told("objector a grave 1 minutes 5;objector b grave 1 minutes 5;objector c grave 1 minutes 5;");
        Crowd.due("free: the fewest", x.purchase(15, 1), 0);
        Crowd.due("free: the least set", x.purchase(10, 1), 1);
        Crowd.due("free: the least set", x.purchase(5, 1), 3);
        Crowd.due("free: all", x.purchase(0, 1), 7);
        Crowd.due("free", x.purchase(0, 0), 0);
    }

    private static void boasts() {
        Crowd.at("promise 23");
        Objections x = Crowd.told(CROWD);
        Crowd.due("boast(0)", x.boast(0), 20);
        Crowd.due("boast(1)", x.boast(1), 20);
        Crowd.due("boast(2)", x.boast(2), 21);
        Crowd.due("boast(3), AWAY", x.boast(3), -1);
        Crowd.due("boast(4)", x.boast(4), -1);
        Crowd.due("boast(-1)", x.boast(-1), -1);
        x.trade(0, 2);
        Crowd.due("by NUMBER", x.boast(0), 21);
        Crowd.due("by NUMBER", x.boast(2), 20);
        x.buy(1);
        x.buy(2);
        Crowd.due("alone", x.boast(0), 0);
        x = Crowd.told("objector a grave 99 minutes 1;objector b grave 9 minutes 1;");
        Crowd.due("no grave is enough", x.boast(1), -1);
        Crowd.due("as grave", x.boast(0), 9);
        x.trade(0, 1);
        Crowd.due("the gravest", x.boast(1), 99);
        Crowd.due("grave as told stays", x.objector(1, 1), 9);
    }

    private static void boastsBySum() {
        Crowd.at("promise 23, by what comes of order");
        Objections x = Crowd.told("objector a grave 0 minutes 1;objector b grave 50 minutes 1;order (grave=33)*2+(grave=44)*3+1;");
        Crowd.due("boast(0)", x.boast(0), 0);
        Crowd.due("boast(1)", x.boast(1), 33);
        x = Crowd.told("objector a grave 0 minutes 1;objector b grave 50 minutes 1;order 0-grave;");
        Crowd.due("less grave", x.boast(0), 0);
        Crowd.due("can't be less", x.boast(1), -1);
        x = Crowd.told("objector a grave 0 minutes 1;objector b grave 50 minutes 1;order number;");
        Crowd.due("grave is nothing", x.boast(0), -1);
        Crowd.due("grave is nothing", x.boast(1), 0);
    }

    private static void gains() {
        Crowd.at("promise 27");
        Objections x = Crowd.told(CROWD);
        Crowd.due("gain(0)", x.gain(0), 0);
        Crowd.due("gain(1)", x.gain(1), 1);
        Crowd.due("gain(2)", x.gain(2), 0);
        Crowd.due("gain(3), AWAY", x.gain(3), -1000000000);
        Crowd.due("gain(4)", x.gain(4), -1000000000);
        Crowd.due("gain(-1)", x.gain(-1), -1000000000);
        x = Crowd.told("objector a grave 9 minutes 5;objector b grave 1 minutes 50;settles a b;");
        Crowd.due("below 0", x.gain(0), -45);
        Crowd.due("nothing", x.gain(1), 0);
        x.pause(5);
        Crowd.due("below 0", x.gain(0), -45);
        x.hear();
        Crowd.due("ANSWERED", x.gain(0), -1000000000);
    }

    private static void crowds() {
        Crowd.at("promise 28");
        String five = THREE + "objector d grave 1 minutes 1 late;objector e grave 1 minutes 1 late;";
        Objections x = Crowd.told(five + "brings e d;brings d c;brings c b;brings a e;");
        int[] due = {31, 2, 6, 14, 30};
        for (int i = 0; i < 5; i++) {
            Crowd.due("crowd(" + i + ")", x.crowd(i), due[i]);
        }
        Crowd.due("crowd(5)", x.crowd(5), -1);
        Crowd.due("crowd(-1)", x.crowd(-1), -1);
        x = Crowd.told(five + "brings a b;brings b c;brings c a;settles a d;");
        Crowd.due("round", x.crowd(1), 7);
        Crowd.due("alone", x.crowd(3), 8);
        x.hear();
        Crowd.due("though heard", x.crowd(0), 7);
    }

    private static void tarries() {
        Crowd.at("promise 31");
        Objections x = Crowd.told(CROWD);
        Crowd.due("tarry(0)", x.tarry(0), 0);
        Crowd.due("tarry(1)", x.tarry(1), 8);
        Crowd.due("tarry(2)", x.tarry(2), -1);
        Crowd.due("tarry(-1)", x.tarry(-1), -1);
        x = new Objections();
        Crowd.due("nobody", x.tarry(0), 0);
        Crowd.due("nobody", x.tarry(1), 0);
        // a would be heard for 50; he goes when 4 are waited
        x = Crowd.told("objector a grave 9 minutes 50 stays 3;objector b grave 1 minutes 2;");
        Crowd.due("tarry(0)", x.tarry(0), 4);
        Crowd.due("tarry(1)", x.tarry(1), 6);
        Crowd.due("nothing is done", x.about(1), 0);
        x.pause(2);
        Crowd.due("tarry(0)", x.tarry(0), 2);
        Crowd.due("tarry(1)", x.tarry(1), 6);
        x = Crowd.told("objector a grave 9 minutes 60 stays 58;");
        Crowd.due("tarry(0)", x.tarry(0), 59);
        Crowd.due("tarry(1)", x.tarry(1), 59);
        x = Crowd.told("objector a grave 9 minutes 60 stays 59;objector b grave 1 minutes 1;settles b a;order minute<60;");
        Crowd.due("as soon, the fewest", x.tarry(0), 0);
        x = Crowd.told("objector a grave 9 minutes 60;objector b grave 9 minutes 1;settles b a;order (minute<60)*(1-number)+(minute>59)*number;");
        Crowd.due("60 at most", x.tarry(0), 0);
        Crowd.due("60 at most", x.tarry(1), 61);
        x = Crowd.told("objector a grave 9 minutes 60;objector b grave 9 minutes 9;settles b a;order (minute<50)*(1-number)+(minute>49)*number;");
        Crowd.due("tarry(0)", x.tarry(0), 50);
        x = Crowd.told("objector a grave 9 minutes 60;objector c grave 9 minutes 60;objector b grave 9 minutes 9;settles b a;settles b c;"
                + "order (heard=0 and minute=60)*number;");
        Crowd.due("tarry(0)", x.tarry(0), 60);
        Crowd.due("tarry(1)", x.tarry(1), 69);
        x = Crowd.told("objector a grave 9 minutes 60;objector c grave 9 minutes 60;objector b grave 9 minutes 9;settles b a;settles b c;"
                + "order (heard=0 and minute=61)*number;");
        Crowd.due("60 at most", x.tarry(0), 0);
        x = Crowd.told("objector a grave 9 minutes 60;objector b grave 9 minutes 9;settles b a;order (minute<50)*(1-number)+(minute>49)*number;");
        Crowd.due("tarry(0)", x.tarry(0), 50);
        Crowd.due("tarry(1)", x.tarry(1), 59);
    }

    private static void swaps() {
        Crowd.at("promise 32");
        Objections x = Crowd.told(CROWD);
        Crowd.due("none is sooner", x.swap(0), -1);
        Crowd.due("none is sooner", x.swap(1), -1);
        Crowd.due("none is sooner", x.swap(2), -1);
        // by NUMBERS a, b, c: 60; c settles both, if he is ahead: by exchange with a 30, with b 40
        x = Crowd.told(THREE + "settles c a;settles c b;");
        Crowd.due("swap(0)", x.swap(0), 0);
        Crowd.due("swap(1)", x.swap(1), 2);
        Crowd.due("swap(2)", x.swap(2), 30);
        Crowd.due("swap(3)", x.swap(3), -1);
        Crowd.due("swap(-1)", x.swap(-1), -1);
        Crowd.due("nothing is done", x.objector(0, 3), 0);
        x.trade(0, 2);
        Crowd.due("as soon is not sooner", x.swap(2), -1);
        // c or d settles a: both as soon, the lesser other one is first
        x = Crowd.told("objector a grave 5 minutes 50;objector b grave 5 minutes 1 stays 0;objector c grave 5 minutes 9 stays 60;"
                + "objector d grave 5 minutes 9 stays 60;settles c a;settles d a;");
        Crowd.due("swap(0)", x.swap(0), 0);
        Crowd.due("swap(1)", x.swap(1), 2);
        Crowd.due("swap(2)", x.swap(2), 18);
        // who is AWAY has a NUMBER as well, but exchanges none
        Objections y = Crowd.told("objector a grave 9 minutes 50;objector b grave 1 minutes 2 late;objector c grave 5 minutes 9;"
                + "settles c a;order (number=1)*999+grave;");
        Crowd.due("dusk", y.dusk(), 59);
        Crowd.due("swap(0)", y.swap(0), -1);
        y = Crowd.told("objector a grave 9 minutes 50;objector b grave 1 minutes 2;objector c grave 5 minutes 9;"
                + "settles c a;order (number=1)*999+grave;");
        Crowd.due("dusk", y.dusk(), 61);
        Crowd.due("swap(0)", y.swap(0), 1);
        Crowd.due("swap(1)", y.swap(1), 2);
        Crowd.due("swap(2)", y.swap(2), 11);
        // who does not WAIT exchanges nothing
        x.buy(2);
        Crowd.due("swap(1)", x.swap(1), 3);
        x.buy(3);
        Crowd.due("swap(0)", x.swap(0), -1);
    }

    private static void begun() {
        Crowd.at("promise 33");
        Objections x = Crowd.told(THREE);
        int[][] due = {{0, 1}, {9, 1}, {10, 2}, {29, 2}, {30, 3}, {9999, 3}, {10000, -1}, {-1, -1}, {Integer.MIN_VALUE, -1}};
        for (int[] row : due) {
            Crowd.due("by(" + row[0] + ")", x.by(row[0]), row[1]);
        }
        x.hear();
        Crowd.due("from now on", x.by(9), 0);
        Crowd.due("from now on", x.by(10), 1);
        Crowd.due("nobody", new Objections().by(5), 0);
    }

    private static void upsets() {
        Crowd.at("promise 34");
        Objections x = Crowd.told(CROWD);
        Crowd.due("upset", x.upset(), 1);
        x.hear();
        Crowd.due("d alone", x.upset(), 0);
        x = Crowd.told("objector a grave 5 minutes 1;objector b grave 7 minutes 1;objector c grave 7 minutes 1;objector d grave 6 minutes 1;"
                + "objector e grave 9 minutes 1;objector f grave 1 minutes 1;order 0-number;");
        Crowd.due("a b, d e", x.upset(), 2);
        x = Crowd.told("objector a grave 5 minutes 1;objector b grave 7 minutes 1;objector c grave 9 minutes 1;");
        Crowd.due("by grave", x.upset(), 0);
        Crowd.due("nobody", new Objections().upset(), 0);
    }

    private static void lying() {
        Crowd.at("promise 35");
        Objections x = Crowd.told(THREE);
        Crowd.due("lies(0)", x.lies(0), -1);
        x.course();
        Crowd.row(x, 0, 1, 2);
        Crowd.due("lies(-1)", x.lies(-1), -1);
        Crowd.due("lies(7)", x.lies(7), -1);
        Crowd.due("lies(max)", x.lies(Integer.MAX_VALUE), -1);
        x.hear();
        x.undo();
        x.pause(3);
        x.dusk();
        x.first(0);
        x.purchase(0, 0);
        x.tarry(0);
        Crowd.row(x, 0, 1, 2);
        x.buy(1);
        x.soonest();
        Crowd.row(x, 0, 2);
    }

    private static void nothingIsDone() {
        Crowd.at("nothing is done");
        Objections x = Crowd.told(CROWD);
        x.pause(1);
        x.undo();
        for (int i = 0; i < 2; i++) {
            x.next();
            x.queue();
            x.dusk();
            x.when(1);
            x.course();
            x.leavers();
            x.soonest();
            x.first(i);
            x.purchase(5, i);
            x.boast(1);
            x.threat(i);
            x.bars();
            x.gain(1);
            x.odds(3, i);
            x.peril(3, i);
            x.tarry(i);
            x.swap(i);
            x.by(3);
            x.upset();
            x.fits(0);
            x.ask(i, 0);
            Crowd.about(x, 4, 0, 333, 0, 40, 0, 7, 0, 0, 1);
            for (int j = 0; j < 4; j++) {
                Crowd.due("NUMBER", x.objector(j, 3), j);
                Crowd.due("sort", x.objector(j, 0), j == 3 ? 6 : 0);
            }
            Crowd.due("grave of the last", x.objector(3, 1), 90);
        }
        Crowd.due("redo", x.redo(), true);
        Crowd.due("minute", x.about(1), 1);
    }
}
