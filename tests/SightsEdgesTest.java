import java.io.IOException;

/** Promises 36 to 41: each sentence that names a boundary case of what is SEEN, FITS and ASK. */
public final class SightsEdgesTest {
    // by TURNS a is ahead of b; c, whose grave is not known, is first from 61 on, second from 31 on
    private static final String THREE = "objector a grave 60 minutes 1;objector b grave 30 minutes 1;objector c grave 5 minutes 1;";
    private static final int[] OTHERS = {-1, 2, Integer.MIN_VALUE, Integer.MAX_VALUE};

    public static void main(String[] args) throws IOException {
        Sentences.run(SightsEdgesTest.class);
    }

    private static void fits(Objections x, int many, int least, int greatest) {
        Crowd.due("fits", x.fits(0), many);
        Crowd.due("sure(0)", x.sure(0, 0), least);
        Crowd.due("sure(1)", x.sure(1, 0), greatest);
    }

    private static void ask(Objections x, int place, int left) {
        Crowd.due("ask(0)", x.ask(0, 0), place);
        Crowd.due("ask(1)", x.ask(1, 0), left);
    }

    // ---- promise 36

    @Says("A SEEN (a place 1 .. 7, an OBJECTOR): its number")
    static void promise36_theFirstAndTheLastPlace() {
        Objections x = Crowd.told(THREE);
        Crowd.due("place 1", x.seen(1, 2, true), 0);
        fits(x, 39, 61, 99);
        x.untell(0);
        Crowd.due("place 7", x.seen(7, 0, false), 1);
        fits(x, 100, 0, 99);
        Crowd.due("place 7", x.seen(7, 0, true), 2);
        fits(x, 0, -1, -1);
        StringBuilder seven = new StringBuilder();
        for (char c = 'a'; c <= 'g'; c++) seven.append("objector ").append(c).append(" grave 50 minutes 1;");
        x = Crowd.told(seven.toString());
        Crowd.due("the last of seven at place 7", x.seen(7, 6, true), 0);
        fits(x, 51, 0, 50);
    }

    @Says("NONE, doing nothing, if one can't be, or there are 30. ## Promise 37")
    static void promise36_aPlaceThatCantBe() {
        Objections x = Crowd.told(THREE);
        for (int place : new int[] {0, 8, -1, Integer.MIN_VALUE, Integer.MAX_VALUE}) {
            Crowd.due("seen(" + place + ")", x.seen(place, 0, true), -1);
        }
        Crowd.due("about(10)", x.about(10), 0);
        fits(x, 100, 0, 99);
    }

    @Says("NONE, doing nothing, if one can't be, or there are 30. ## Promise 37")
    static void promise36_anObjectorWhoCantBe() {
        Objections x = Crowd.told(THREE);
        for (int objector : new int[] {-1, 3, 7, 32, Integer.MIN_VALUE, Integer.MAX_VALUE}) {
            Crowd.due("seen by " + objector, x.seen(1, objector, true), -1);
        }
        Crowd.due("about(10)", x.about(10), 0);
        fits(x, 100, 0, 99);
        Crowd.due("without OBJECTORS", new Objections().seen(1, 0, true), -1);
    }

    @Says("SEEN, 30 at most")
    static void promise36_thirtyAtMost() {
        Objections x = Crowd.told(THREE);
        for (int i = 0; i < 30; i++) {
            Crowd.due("seen", x.seen(1, 2, true), i);
        }
        Crowd.due("one more", x.seen(2, 2, true), -1);
        Crowd.due("about(10)", x.about(10), 30);
        fits(x, 39, 61, 99);
        Crowd.due("the last one", x.untell(29), true);
        Crowd.due("there is no other", x.untell(30), false);
        Crowd.due("there are 30 still", x.seen(1, 2, true), -1);
    }

    // ---- promise 37

    @Says("It is UNTOLD: true; false if it is so already, or there is none such.")
    static void promise37_itIsSoAlready() {
        Objections x = Crowd.told(THREE);
        x.seen(1, 2, true);
        x.later(5);
        Crowd.due("untell", x.untell(0), true);
        x.later(5);
        Crowd.due("untell again", x.untell(0), false);
        Crowd.due("UNTOLD at 5", x.fits(5), 100);
        Crowd.due("not UNTOLD at 4", x.fits(4), 39);
    }

    @Says("false if it is so already, or there is none such.")
    static void promise37_noneSuch() {
        Objections x = Crowd.told(THREE);
        Crowd.due("nothing is SEEN", x.untell(0), false);
        x.seen(1, 2, true);
        for (int seen : new int[] {-1, 1, 29, 30, 31, Integer.MIN_VALUE, Integer.MAX_VALUE}) {
            Crowd.due("untell(" + seen + ")", x.untell(seen), false);
        }
        fits(x, 39, 61, 99);
        Crowd.due("without OBJECTORS", new Objections().untell(0), false);
    }

    @Says("UNTOLD at a later one or the same")
    static void promise37_untoldAtTheSameTime() {
        Objections x = Crowd.told(THREE);
        x.later(3);
        x.seen(1, 2, true);
        Crowd.due("told at 3", x.fits(3), 39);
        Crowd.due("untell", x.untell(0), true);
        for (int k = 0; k < 6; k++) {
            Crowd.due("never known", x.fits(k), 100);
        }
    }

    // ---- promise 38

    @Says("So much later (0 .. 1000): the TIME")
    static void promise38_by0AndBy1000() {
        Objections x = new Objections();
        Crowd.due("later(0)", x.later(0), 0);
        Crowd.due("later(1000)", x.later(1000), 1000);
        Crowd.due("later(1)", x.later(1), 1001);
        Crowd.due("later(0)", x.later(0), 1001);
        Crowd.due("about(11)", x.about(11), 1001);
    }

    @Says("NONE, doing nothing, for another number")
    static void promise38_anotherNumber() {
        Objections x = new Objections();
        x.later(7);
        for (int by : new int[] {-1, -7, 1001, 100000, Integer.MIN_VALUE, Integer.MAX_VALUE, Integer.MAX_VALUE - 6}) {
            Crowd.due("later(" + by + ")", x.later(by), -1);
            Crowd.due("about(11)", x.about(11), 7);
        }
    }

    @Says("or if it would be above 100,000.")
    static void promise38_above100000() {
        Objections x = new Objections();
        x.later(7);
        for (int i = 1; i < 100; i++) {
            x.later(1000);
        }
        Crowd.due("about(11)", x.about(11), 99007);
        Crowd.due("later(1000)", x.later(1000), -1);
        Crowd.due("later(994)", x.later(994), -1);
        Crowd.due("about(11)", x.about(11), 99007);
        Crowd.due("later(993)", x.later(993), 100000);
        Crowd.due("later(1)", x.later(1), -1);
        Crowd.due("later(0)", x.later(0), 100000);
    }

    // ---- promise 39

    @Says("FITS: how many (0 without OBJECTORS).")
    static void promise39_withoutObjectors() {
        Crowd.due("fits", new Objections().fits(0), 0);
        Objections x = Crowd.told(THREE);
        Crowd.due("fits", x.fits(0), 100);
        Crowd.due("an empty WEDDING", x.wedding(), 0);
        Crowd.due("fits", x.fits(0), 0);
        Crowd.due("one OBJECTOR", Crowd.told("objector a grave 1 minutes 1;").fits(0), 100);
    }

    @Says("FITS: graves (0 .. 99) by which all that counts is so.")
    static void promise39_graves0And99() {
        Objections x = Crowd.told("objector a grave 0 minutes 1;objector b grave 50 minutes 1;");
        x.seen(1, 0, true);
        fits(x, 1, 0, 0);
        x = Crowd.told("objector a grave 98 minutes 1;objector b grave 50 minutes 1;");
        x.seen(1, 1, true);
        fits(x, 1, 99, 99);
        x = Crowd.told("objector a grave 99 minutes 1;objector b grave 50 minutes 1;");
        x.seen(1, 1, true);
        fits(x, 0, -1, -1);
    }

    @Says("by which all that counts is so.")
    static void promise39_allThatCounts() {
        Objections x = Crowd.told(THREE);
        x.seen(1, 2, false);
        fits(x, 61, 0, 60);
        x.seen(3, 2, false);
        fits(x, 30, 31, 60);
        x.seen(2, 2, true);
        fits(x, 30, 31, 60);
        x.seen(2, 2, false);
        fits(x, 0, -1, -1);
    }

    @Says("As known at k that counts that was TOLD at k or before, not UNTOLD at k or before.")
    static void promise39_toldAndUntoldAtK() {
        Objections x = Crowd.told(THREE);
        x.later(10);
        x.seen(1, 2, true);
        x.later(10);
        x.untell(0);
        int[][] rows = {{Integer.MIN_VALUE, 100}, {-1, 100}, {0, 100}, {9, 100}, {10, 39}, {11, 39}, {19, 39}, {20, 100}, {21, 100},
            {100001, 100}, {Integer.MAX_VALUE, 100}};
        for (int[] row : rows) {
            Crowd.due("fits(" + row[0] + ")", x.fits(row[0]), row[1]);
        }
        x.seen(1, 2, true);
        Crowd.due("whatever comes", x.fits(Integer.MAX_VALUE), 39);
        Crowd.due("nothing yet", x.fits(Integer.MIN_VALUE), 100);
    }

    @Says("is TOLD at a TIME (0 at first, goes on)")
    static void promise39_toldAtTheFirstTime() {
        Objections x = Crowd.told(THREE);
        x.seen(1, 2, true);
        Crowd.due("told at 0", x.fits(0), 39);
        Crowd.due("not before", x.fits(-1), 100);
    }

    @Says("of the wedding as it was told (nothing done, all ANSWERED), but for the last OBJECTOR's grave, which is not known")
    static void promise39_whatWasDoneIsNoMatter() {
        Objections x = Crowd.told(THREE + "answer 0;");
        x.seen(1, 2, true);
        x.trade(0, 2);
        x.hear();
        x.buy(1);
        x.pause(60);
        fits(x, 39, 61, 99);
        Crowd.due("the grave as told", x.objector(2, 1), 5);
        x.back(0);
        x.undo();
        x.undo();
        Crowd.due("ORDER as told", x.ranks(1), 30);
        Crowd.due("the last one's ORDER as told", Crowd.told(THREE).ranks(2), 5);
    }

    @Says("of the wedding as it was told")
    static void promise39_anotherWeddingIsAsItWasToldThen() {
        Objections x = Crowd.told(THREE);
        x.seen(1, 2, true);
        fits(x, 39, 61, 99);
        Crowd.due("wedding", Crowd.wed(x, "objector a grave 90 minutes 1;objector b grave 80 minutes 1;objector c grave 70 minutes 1;"), 3);
        x.seen(1, 2, true);
        fits(x, 9, 91, 99);
        Crowd.due("a FAULT", Crowd.wed(x, THREE + "$"), -1);
        fits(x, 9, 91, 99);
        Crowd.due("wedding", Crowd.wed(x, "objector a grave 90 minutes 1;objector b grave 80 minutes 1;"), 2);
        x.seen(1, 1, true);
        fits(x, 9, 91, 99);
        x.seen(2, 1, true);
        fits(x, 0, -1, -1);
    }

    @Says("that at a place (1 .. 7; by TURNS) an OBJECTOR was HEARD, or was not")
    static void promise39_whoIsNeverHeardIsAtNoPlace() {
        Objections x = Crowd.told(THREE.replace("objector c grave 5 minutes 1;", "objector c grave 5 minutes 1 late;"));
        for (int place = 1; place <= 7; place++) {
            x.seen(place, 2, false);
        }
        fits(x, 100, 0, 99);
        x.seen(3, 2, true);
        fits(x, 0, -1, -1);
    }

    // ---- promise 40

    @Says("The least of FITS (what 0), the greatest (1); NONE if none FITS, or for another what.")
    static void promise40_noneFits() {
        Objections x = Crowd.told(THREE);
        fits(x, 100, 0, 99);
        x.seen(7, 0, true);
        fits(x, 0, -1, -1);
        fits(new Objections(), 0, -1, -1);
    }

    @Says("NONE if none FITS, or for another what. ## Promise 41")
    static void promise40_anotherWhat() {
        Objections x = Crowd.told(THREE);
        for (int what : OTHERS) {
            Crowd.due("sure(" + what + ")", x.sure(what, 0), -1);
            Crowd.due("sure(0)", x.sure(0, 0), 0);
            Crowd.due("sure(" + what + ") then", x.sure(what, 0), -1);
            Crowd.due("without OBJECTORS", new Objections().sure(what, 0), -1);
        }
    }

    @Says("As known at k that counts")
    static void promise40_asKnownAtK() {
        Objections x = Crowd.told(THREE);
        x.later(10);
        x.seen(2, 2, true);
        x.later(10);
        x.untell(0);
        int[][] rows = {{9, 0, 99}, {10, 31, 60}, {19, 31, 60}, {20, 0, 99}, {-1, 0, 99}};
        for (int[] row : rows) {
            Crowd.due("sure(0, " + row[0] + ")", x.sure(0, row[0]), row[1]);
            Crowd.due("sure(1, " + row[0] + ")", x.sure(1, row[0]), row[2]);
        }
    }

    // ---- promise 41

    @Says("ASK what 0: the place, 1: how many are left at the most; NONE if none FITS, or for another what.")
    static void promise41_noneFits() {
        Objections x = Crowd.told(THREE);
        x.seen(7, 0, true);
        ask(x, -1, -1);
        ask(new Objections(), -1, -1);
    }

    @Says("NONE if none FITS, or for another what. ## Promise 42")
    static void promise41_anotherWhat() {
        Objections x = Crowd.told(THREE);
        for (int what : OTHERS) {
            Crowd.due("ask(" + what + ")", x.ask(what, 0), -1);
            Crowd.due("ask(0)", x.ask(0, 0), 2);
            Crowd.due("ask(" + what + ") then", x.ask(what, 0), -1);
            Crowd.due("without OBJECTORS", new Objections().ask(what, 0), -1);
        }
    }

    @Says("would leave the fewest of these at the most; of like ones the first.")
    static void promise41_ofLikeOnesTheFirst() {
        // first: a by 61, c by 39; second: a by 39, c by 30, b by 31; third: b by 69, c by 31
        Objections x = Crowd.told(THREE);
        ask(x, 2, 39);
        x.seen(2, 2, true);
        ask(x, 1, 30);
        ask(Crowd.told("objector a grave 1 minutes 1;"), 1, 100);
        // first and second: 51 and 49, either way
        ask(Crowd.told("objector a grave 50 minutes 1;objector b grave 1 minutes 1;"), 1, 51);
    }

    @Says("the place of which to know who was HEARD there (or nobody)")
    static void promise41_nobodyThereIsKnownToo() {
        // c first, and a and b LEFT, by 39; a, c, and b LEFT, by 30; a, b, c by 31: at the second place nobody by 39
        Objections x = Crowd.told("objector a grave 60 minutes 1 stays 1;objector b grave 30 minutes 1 stays 1;objector c grave 5 minutes 2;");
        ask(x, 2, 39);
        // b alone by 9; a, b by 91
        x = Crowd.told("objector a grave 90 minutes 1;objector c grave 1 minutes 1;objector b grave 1 minutes 1;settles b a;settles b c;settles a c;");
        ask(x, 1, 91);
    }

    @Says("As known at k that counts")
    static void promise41_asKnownAtK() {
        Objections x = Crowd.told(THREE);
        x.later(10);
        x.seen(2, 2, true);
        x.later(10);
        x.untell(0);
        int[][] rows = {{9, 2, 39}, {10, 1, 30}, {19, 1, 30}, {20, 2, 39}, {Integer.MAX_VALUE, 2, 39}};
        for (int[] row : rows) {
            Crowd.due("ask(0, " + row[0] + ")", x.ask(0, row[0]), row[1]);
            Crowd.due("ask(1, " + row[0] + ")", x.ask(1, row[0]), row[2]);
        }
    }
}
