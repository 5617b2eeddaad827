/** Promises 36 to 41: what is SEEN, by which graves it is so, and where to ask. */
public final class SightsTest {
    // by TURNS a is ahead of b; c, whose grave is not known, is anywhere
    private static final String THREE = "objector a grave 60 minutes 1;objector b grave 30 minutes 1;objector c grave 5 minutes 1;";

    public static void main(String[] args) {
        telling();
        untelling();
        times();
        fitting();
        known();
        sureOnes();
        asking();
        asWasTold();
        Crowd.close("SightsTest");
    }

    private static void telling() {
        Crowd.at("promise 36");
        Objections x = Crowd.told(THREE);
        Crowd.due("place 0", x.seen(0, 0, true), -1);
        Crowd.due("place 8", x.seen(8, 0, true), -1);
        Crowd.due("place min", x.seen(Integer.MIN_VALUE, 0, true), -1);
        Crowd.due("objector 3", x.seen(1, 3, true), -1);
        Crowd.due("objector -1", x.seen(1, -1, true), -1);
        Crowd.due("nothing", x.about(10), 0);
        for (int i = 0; i < 30; i++) {
            Crowd.due("seen", x.seen(i % 7 + 1, i % 3, false), i);
        }
        Crowd.due("30 are there", x.seen(1, 0, false), -1);
        x.untell(5);
        Crowd.due("30 are there still", x.seen(1, 0, false), -1);
        Crowd.due("about(10)", x.about(10), 30);
        Crowd.due("nobody there", new Objections().seen(1, 0, true), -1);
    }

    private static void untelling() {
        Crowd.at("promise 37");
        Objections x = Crowd.told(THREE);
        Crowd.due("untell(0)", x.untell(0), false);
        x.seen(1, 2, true);
        Crowd.due("untell(-1)", x.untell(-1), false);
        Crowd.due("untell(1)", x.untell(1), false);
        Crowd.due("untell(max)", x.untell(Integer.MAX_VALUE), false);
        Crowd.due("fits", x.fits(0), 39);
        Crowd.due("untell(0)", x.untell(0), true);
        Crowd.due("untell(0) again", x.untell(0), false);
        Crowd.due("UNTOLD at the same TIME", x.fits(0), 100);
    }

    private static void times() {
        Crowd.at("promise 38");
        Objections x = Crowd.told(THREE);
        Crowd.due("later(0)", x.later(0), 0);
        Crowd.due("later(-1)", x.later(-1), -1);
        Crowd.due("later(1001)", x.later(1001), -1);
        Crowd.due("later(7)", x.later(7), 7);
        Crowd.due("later(max)", x.later(Integer.MAX_VALUE), -1);
        for (int i = 1; i <= 99; i++) {
            Crowd.due("later(1000)", x.later(1000), 7 + i * 1000);
        }
        Crowd.due("above 100,000", x.later(994), -1);
        Crowd.due("TIME", x.about(11), 99007);
        Crowd.due("100,000", x.later(993), 100000);
        Crowd.due("later(1)", x.later(1), -1);
        Crowd.due("later(0)", x.later(0), 100000);
        Crowd.wed(x, THREE);
        Crowd.due("the TIME stays", x.about(11), 100000);
    }

    private static void fitting() {
        Crowd.at("promise 39");
        Crowd.due("without OBJECTORS", new Objections().fits(0), 0);
        Objections x = Crowd.told(THREE);
        Crowd.due("nothing SEEN", x.fits(0), 100);
        x.seen(1, 2, true);
        Crowd.due("c first: 61 to 99", x.fits(0), 39);
        x.untell(0);
        x.seen(2, 2, true);
        Crowd.due("c second: 31 to 60 (a's NUMBER is less)", x.fits(0), 30);
        x.untell(1);
        x.seen(3, 2, true);
        Crowd.due("c third: 0 to 30", x.fits(0), 31);
        x.untell(2);
        x.seen(1, 2, false);
        Crowd.due("c not first: 0 to 60", x.fits(0), 61);
        x.seen(3, 1, true);
        Crowd.due("b third: 31 to 60", x.fits(0), 30);
        x.seen(4, 0, false);
        Crowd.due("a not fourth: always", x.fits(0), 30);
        x.seen(7, 0, true);
        Crowd.due("a seventh: never", x.fits(0), 0);
    }

    private static void known() {
        Crowd.at("promise 39, two times");
        Objections x = Crowd.told(THREE);
        x.later(10);
        x.seen(1, 2, true);
        x.later(5);
        x.seen(3, 2, true);
        x.later(5);
        x.untell(0);
        x.later(5);
        x.untell(1);
        int[][] due = {{-1, 100}, {0, 100}, {9, 100}, {10, 39}, {14, 39}, {15, 0}, {19, 0}, {20, 31}, {24, 31}, {25, 100}, {99999, 100},
            {Integer.MIN_VALUE, 100}, {Integer.MAX_VALUE, 100}};
        for (int[] row : due) {
            Crowd.due("fits(" + row[0] + ")", x.fits(row[0]), row[1]);
        }
        Crowd.due("sure(0, 10)", x.sure(0, 10), 61);
        Crowd.due("sure(1, 20)", x.sure(1, 20), 30);
        Crowd.due("sure(0, 15)", x.sure(0, 15), -1);
        Crowd.due("ask(1, 12)", x.ask(1, 12), 39);
        Crowd.due("ask(0, 19)", x.ask(0, 19), -1);
    }

    private static void sureOnes() {
        Crowd.at("promise 40");
        Objections x = new Objections();
        Crowd.due("without OBJECTORS", x.sure(0, 0), -1);
        x = Crowd.told(THREE);
        Crowd.due("sure(0)", x.sure(0, 0), 0);
        Crowd.due("sure(1)", x.sure(1, 0), 99);
        x.seen(2, 2, true);
        Crowd.due("sure(0)", x.sure(0, 0), 31);
        Crowd.due("sure(1)", x.sure(1, 0), 60);
        Crowd.due("sure(2)", x.sure(2, 0), -1);
        Crowd.due("sure(-1)", x.sure(-1, 0), -1);
        x.seen(2, 1, true);
        Crowd.due("none FITS", x.sure(0, 0), -1);
        Objections y = Crowd.told("objector a grave 1 minutes 1;objector b grave 7 minutes 1;");
        y.seen(1, 1, false);
        y.seen(2, 0, false);
        Crowd.due("0 and 1", y.sure(1, 0), 1);
        y = Crowd.told("objector a grave 0 minutes 1;objector b grave 7 minutes 1;");
        y.seen(1, 0, true);
        Crowd.due("0 alone", y.fits(0), 1);
        Crowd.due("0 alone", y.sure(0, 0), 0);
        Crowd.due("0 alone", y.sure(1, 0), 0);
        Crowd.due("none FITS", x.sure(1, 0), -1);
    }

    private static void asking() {
        Crowd.at("promise 41");
        Objections x = new Objections();
        Crowd.due("without OBJECTORS", x.ask(0, 0), -1);
        x = Crowd.told(THREE);
        // first: a by 61, c by 39; second: b by 31 (c third), c by 30, a by 39; third: c by 31, b by 69
        Crowd.due("ask(0)", x.ask(0, 0), 2);
        Crowd.due("ask(1)", x.ask(1, 0), 39);
        Crowd.due("ask(2)", x.ask(2, 0), -1);
        Crowd.due("ask(-1)", x.ask(-1, 0), -1);
        x.seen(1, 2, false);
        // first: a by 61; second: b by 31, c by 30
        Crowd.due("ask(0)", x.ask(0, 0), 2);
        Crowd.due("ask(1)", x.ask(1, 0), 31);
        x.seen(2, 2, true);
        Crowd.due("of like ones the first", x.ask(0, 0), 1);
        Crowd.due("ask(1)", x.ask(1, 0), 30);
        x.seen(1, 1, true);
        Crowd.due("none FITS", x.ask(0, 0), -1);
        Crowd.due("none FITS", x.ask(1, 0), -1);
        // nobody there is known, too: behind b alone a LEFT, ahead of him all three are heard
        x = Crowd.told("objector a grave 50 minutes 1 stays 4;objector b grave 30 minutes 5;");
        Crowd.due("first: a by 51, b by 49; second: b by 51, nobody by 49", x.ask(0, 0), 1);
        Crowd.due("ask(1)", x.ask(1, 0), 51);
        x = Crowd.told("objector a grave 50 minutes 1 late;objector c grave 5 minutes 1;objector b grave 5 minutes 2;order (grave=9)*number;"
                + "brings b a;settles c b;");
        Crowd.due("b first by 9 alone", x.ask(1, 0), 99);
        x.seen(1, 2, true);
        Crowd.due("fits", x.fits(0), 1);
        Crowd.due("sure", x.sure(0, 0), 9);
    }

    private static void asWasTold() {
        Crowd.at("promise 39, as it was told");
        Objections x = Crowd.told(THREE + "order grave+minute*0;answer 0;");
        x.seen(1, 2, true);
        x.trade(0, 1);
        x.hear();
        x.buy(2);
        x.pause(60);
        Crowd.due("nothing done", x.fits(0), 39);
        Crowd.due("the grave as told stays", x.objector(2, 1), 5);
        Crowd.due("the place to ask", x.ask(0, 0), 1);
        Crowd.due("a new one", Crowd.wed(x, "objector z grave 98 minutes 1;objector y grave 1 minutes 1;"), 2);
        Crowd.due("nothing SEEN", x.fits(99), 100);
        x.seen(1, 1, true);
        Crowd.due("only 99", x.fits(0), 1);
        x = Crowd.told("objector a grave 9 minutes 1;objector b grave 1 minutes 1 late;");
        x.seen(1, 1, false);
        x.seen(2, 0, false);
        Crowd.due("never heard", x.fits(0), 100);
        x.seen(1, 1, true);
        Crowd.due("never heard", x.fits(0), 0);
    }
}
