/** Promises 24 to 26, 29, 30 and 44: WEIGHT and what bars, ODDS, PERIL, and about. */
public final class ScalesTest {
    private static final String FOUR = "objector a grave 10 minutes 1;objector b grave 20 minutes 1;objector c grave 30 minutes 1;"
            + "objector d grave 40 minutes 1 late;joined a b 5;joined c a 7;joined d b 9;";

    public static void main(String[] args) {
        weights();
        threats();
        manyThreats();
        odds();
        oddsOfFour();
        perils();
        about();
        Crowd.close("ScalesTest");
    }

    private static void weights() {
        Crowd.at("promise 24");
        Objections x = Crowd.told(FOUR + "answer 0;bar 60;");
        Crowd.due("nobody STANDS", x.weight(), 0);
        x.hear();
        Crowd.due("c", x.weight(), 30);
        x.hear();
        Crowd.due("c and b", x.weight(), 50);
        Crowd.due("not BARRED", x.about(5), 0);
        x.hear();
        Crowd.due("c, b, a and both joined", x.weight(), 72);
        Crowd.due("BARRED", x.about(5), 1);
        x.undo();
        x.buy(0);
        Crowd.due("c and b", x.weight(), 50);
        x = Crowd.told(FOUR);
        x.hear();
        x.hear();
        Crowd.due("all ANSWERED", x.weight(), 0);
        x = Crowd.told(FOUR + "answer 0;bar 50;");
        x.hear();
        x.hear();
        Crowd.due("as much as bar", x.about(5), 1);
        x = Crowd.told(FOUR + "answer 0;bar 51;");
        x.hear();
        x.hear();
        Crowd.due("less than bar", x.about(5), 0);
    }

    private static void threats() {
        Crowd.at("promise 25");
        Objections x = Crowd.told(FOUR + "bar 35;");
        // a and b 35, a and c 47, b and c 50: two, the least set
        Crowd.due("threat(0)", x.threat(0), 2);
        Crowd.due("threat(1)", x.threat(1), 3);
        Crowd.due("threat(2)", x.threat(2), -1);
        Crowd.due("threat(-1)", x.threat(-1), -1);
        x = Crowd.told(FOUR + "bar 36;");
        Crowd.due("threat(1)", x.threat(1), 5);
        x = Crowd.told(FOUR + "bar 30;");
        Crowd.due("the fewest", x.threat(1), 4);
        x = Crowd.told(FOUR + "bar 72;");
        Crowd.due("all", x.threat(1), 7);
        x = Crowd.told(FOUR + "bar 73;");
        Crowd.due("all are not enough", x.threat(0), -1);
        Crowd.due("all are not enough", x.threat(1), -1);
        x = Crowd.told(FOUR + "bar 35;answer 0;");
        x.hear();
        // c STANDS: a makes 47, b makes 50
        Crowd.due("with him who STANDS", x.threat(0), 1);
        Crowd.due("with him who STANDS", x.threat(1), 1);
        x.hear();
        Crowd.due("BARRED", x.threat(0), 0);
        Crowd.due("BARRED", x.threat(1), 0);
        x = Crowd.told(FOUR + "bar 35;");
        x.buy(0);
        x.buy(2);
        Crowd.due("who does not WAIT is none", x.threat(0), -1);
    }

    private static void manyThreats() {
        Crowd.at("promise 26");
        Crowd.due("bars", Crowd.told(FOUR + "bar 1;").bars(), 7);
        Crowd.due("bars", Crowd.told(FOUR + "bar 30;").bars(), 5);
        Crowd.due("bars", Crowd.told(FOUR + "bar 35;").bars(), 4);
        Crowd.due("bars", Crowd.told(FOUR + "bar 36;").bars(), 3);
        Crowd.due("bars", Crowd.told(FOUR + "bar 72;").bars(), 1);
        Crowd.due("bars", Crowd.told(FOUR + "bar 73;").bars(), 0);
        Objections x = Crowd.told(FOUR + "bar 30;answer 0;");
        x.hear();
        Crowd.due("none of them, too", x.bars(), 4);
        x.hear();
        x.hear();
        Crowd.due("nobody WAITS", x.bars(), 1);
    }

    private static void odds(Objections x, int set, int upper, int lower) {
        Crowd.due("odds(" + set + ", 0)", x.odds(set, 0), upper);
        Crowd.due("odds(" + set + ", 1)", x.odds(set, 1), lower);
    }

    private static void peril(Objections x, int set, int upper, int lower) {
        Crowd.due("peril(" + set + ", 0)", x.peril(set, 0), upper);
        Crowd.due("peril(" + set + ", 1)", x.peril(set, 1), lower);
    }

    private static void odds() {
        Crowd.at("promise 29");
        Objections x = Crowd.told(FOUR + "answer 100-grave*2;");
        odds(x, 0, 1, 1);
        odds(x, 1, 4, 5);
        odds(x, 2, 3, 5);
        odds(x, 3, 12, 25);
        odds(x, 7, 24, 125);
        odds(x, 8, -1, -1);
        odds(x, 9, -1, -1);
        odds(x, 16, -1, -1);
        odds(x, -1, -1, -1);
        odds(x, Integer.MIN_VALUE, -1, -1);
        Crowd.due("part 2", x.odds(1, 2), -1);
        Crowd.due("part -1", x.odds(1, -1), -1);
        x = Crowd.told(FOUR + "answer (grave-20)*100;");
        odds(x, 1, 0, 1);
        odds(x, 4, 1, 1);
        odds(x, 5, 0, 1);
        x = Crowd.told(FOUR);
        odds(x, 7, 1, 1);
        // by what is now
        x = Crowd.told(FOUR + "answer waited*10+heard+minute;");
        odds(x, 1, 0, 1);
        x.pause(3);
        odds(x, 1, 33, 100);
        x.hear();
        odds(x, 1, 9, 20);
        odds(x, 4, -1, -1);
    }

    private static void oddsOfFour() {
        Crowd.at("promise 29, four at most");
        String six = "objector a grave 1 minutes 1;objector b grave 3 minutes 1;objector c grave 7 minutes 1;objector d grave 9 minutes 1;"
                + "objector e grave 11 minutes 1;objector f grave 13 minutes 1;answer grave;";
        Objections x = Crowd.told(six);
        odds(x, 15, 189, 100000000);
        odds(x, 60, 7 * 9 * 11 * 13, 100000000);
        odds(x, 31, -1, -1);
        odds(x, 63, -1, -1);
        peril(x, 31, -1, -1);
        peril(x, 15, 0, 1);
        x = Crowd.told(six + "bar 20;");
        // all four weigh 20: 99 * 97 * 93 * 91 of 100,000,000
        peril(x, 15, 99 * 97 * 93 * 91, 100000000);
    }

    private static void perils() {
        Crowd.at("promise 30");
        Objections x = Crowd.told(FOUR + "answer 100-grave*2;bar 35;");
        peril(x, 0, 0, 1);
        peril(x, 1, 0, 1);
        // a and b: 1 of 5 and 2 of 5
        peril(x, 3, 2, 25);
        // two of three at least: 1/5 2/5 2/5, 1/5 3/5 3/5, 4/5 2/5 3/5, and all 1/5 2/5 3/5: 4 + 9 + 24 ... of 125
        peril(x, 7, 1 * 2 * 2 + 1 * 3 * 3 + 4 * 2 * 3 + 1 * 2 * 3, 125);
        peril(x, 8, -1, -1);
        peril(x, 32, -1, -1);
        peril(x, -1, -1, -1);
        Crowd.due("part 2", x.peril(1, 2), -1);
        Crowd.due("part -1", x.peril(1, -1), -1);
        x = Crowd.told(FOUR + "answer (heard>0)*50;bar 35;");
        x.hear();
        // c STANDS with 30; a makes 47, b 50
        peril(x, 0, 0, 1);
        peril(x, 1, 1, 2);
        peril(x, 3, 3, 4);
        x = Crowd.told(FOUR + "answer 0;bar 30;");
        x.hear();
        peril(x, 0, 1, 1);
        peril(x, 3, 1, 1);
        peril(x, 4, -1, -1);
    }

    private static void about() {
        Crowd.at("promise 44");
        Objections x = Crowd.told(FOUR + "bar 25;draw 12;answer 50;order grave+0;brings c d;");
        x.later(9);
        x.hear();
        x.hear();
        x.buy(0);
        x.pause(4);
        x.undo();
        x.seen(1, 2, true);
        x.seen(2, 2, false);
        x.untell(0);
        x.course();
        Crowd.feed(x, "bar");
        // 12: 1,644 and 71 more are 1,715: c is ANSWERED; 715: 97,955 and 71 more are 98,026: d is ANSWERED
        Crowd.about(x, 4, 2, 26, 0, 25, 0, 2, 0, 3, 1, 2, 9, 3, 3, 1);
        Crowd.due("about(15)", x.about(15), -1);
        Crowd.due("about(-1)", x.about(-1), -1);
        Crowd.due("about(max)", x.about(Integer.MAX_VALUE), -1);
        x = Crowd.told(FOUR + "answer 0;bar 70;draw 5;brings c d;");
        x.hear();
        x.hear();
        Crowd.about(x, 4, 2, (756 * 137 + 71) % 1000, 0, 70, 1, 3, 12, 2, 0, 0, 0, 0, 1, 0);
    }
}
