import java.io.IOException;

/** Promises 6 to 13, 42 and 43: each sentence that names a boundary case of what OBJECTORS are, ORDER, the ACTS and BOXES. */
public final class ActsEdgesTest {
    private static final String TWO = "objector a grave 1 minutes 1 price 2;objector b grave 1 minutes 1 price 3;";
    private static final int NO_ORDER = -1000000000;
    private static final int[] NONE_SUCH = {-1, 7, 8, 31, 32, 33, Integer.MIN_VALUE, Integer.MAX_VALUE};

    public static void main(String[] args) throws IOException {
        Sentences.run(ActsEdgesTest.class);
    }

    private static void order(String e, int due) {
        Crowd.due(e, Crowd.told("objector a grave 7 minutes 5;order " + e + ";").ranks(0), due);
    }

    /** One alone is HEARD, with this draw and answer. */
    private static void heardAs(int draw, String answer, int sort) {
        Objections x = Crowd.told("objector a grave 1 minutes 1;draw " + draw + ";" + answer);
        Crowd.due("hear", x.hear(), 0);
        Crowd.due("draw " + draw + " " + answer, x.objector(0, 0), sort);
    }

    /** The minute, the SEED, what is spent, and how many ACTS can be undone and redone. */
    private static void is(Objections x, int minute, int seed, int spent, int done, int undone) {
        Crowd.due("minute", x.about(1), minute);
        Crowd.due("SEED", x.about(2), seed);
        Crowd.due("spent", x.about(3), spent);
        Crowd.due("about(8)", x.about(8), done);
        Crowd.due("about(9)", x.about(9), undone);
    }

    // ---- promise 6

    @Says("what 0: 0 he WAITS, 1 ANSWERED, 2 STANDS, 3 WITHDREW, 4 LEFT, 5 BOUGHT, 6 AWAY")
    static void promise06_oneOfEachSort() {
        Crowd.is(Crowd.ofEachSort(), 1, 2, 3, 4, 5, 6, 0);
    }

    @Says("An OBJECTOR WAITS (at first), or is AWAY (late, at first)")
    static void promise06_whatTheyAreAtFirst() {
        Crowd.is(Crowd.told(TWO + "objector c grave 1 minutes 1 late;"), 0, 0, 6);
    }

    @Says("4: how long he waited (0 if he does not WAIT)")
    static void promise06_whoDoesNotWaitWaited0() {
        Objections x = Crowd.ofEachSort();
        for (int i = 0; i < 6; i++) {
            Crowd.due("objector(" + i + ", 4)", x.objector(i, 4), 0);
        }
        Crowd.due("who WAITS", x.objector(6, 4), 2);
    }

    @Says("and came at minute 0, or when he was brought.")
    static void promise06_heWaitedSinceHeWasBrought() {
        Objections x = Crowd.told("objector a grave 9 minutes 5;objector b grave 1 minutes 1 late;objector c grave 1 minutes 1;brings a b;");
        x.pause(10);
        Crowd.due("AWAY", x.objector(1, 4), 0);
        x.hear();
        Crowd.due("brought at 15", x.objector(1, 4), 0);
        Crowd.due("came at 0", x.objector(2, 4), 15);
        x.pause(3);
        Crowd.due("brought at 15", x.objector(1, 4), 3);
        Crowd.due("came at 0", x.objector(2, 4), 18);
    }

    @Says("and came at minute 0, or when he was brought.")
    static void promise06_whoeverIsBroughtCameThen() {
        for (int late = 0; late < 7; late++) {
            Objections x = Crowd.told(Crowd.oneBrought(late));
            x.pause(3);
            x.hear();
            x.pause(2);
            for (int i = 0; i < 7; i++) {
                Crowd.due("objector(" + i + ", 4)", x.objector(i, 4), i == late ? 2 : i == (late + 1) % 7 ? 0 : 10);
            }
        }
    }

    @Says("He has a NUMBER (0, 1, .. as told, at first)")
    static void promise06_numbersAsTold() {
        Objections x = Crowd.ofEachSort();
        for (int i = 0; i < 7; i++) {
            Crowd.due("objector(" + i + ", 3)", x.objector(i, 3), i);
        }
    }

    @Says("6: whom he settles, 7: whom he brings, both as bits")
    static void promise06_nobodyAndAllOthersAsBits() {
        String four = TWO + "objector c grave 1 minutes 1;objector d grave 1 minutes 1;";
        Objections x = Crowd.told(four + "settles a b;settles a c;settles a d;brings d c;brings d b;brings d a;");
        Crowd.due("all others", x.objector(0, 6), 14);
        Crowd.due("nobody", x.objector(0, 7), 0);
        Crowd.due("nobody", x.objector(3, 6), 0);
        Crowd.due("all others", x.objector(3, 7), 7);
        x.hear();
        Crowd.due("settled ones, too", x.objector(0, 6), 14);
    }

    @Says("-2 if there is none such, or for another what. ## Promise 7")
    static void promise06_noneSuch() {
        Objections x = Crowd.ofEachSort();
        for (int none : NONE_SUCH) {
            for (int what = -1; what < 9; what++) {
                Crowd.due("objector(" + none + ", " + what + ")", x.objector(none, what), -2);
            }
        }
        Crowd.due("without OBJECTORS", new Objections().objector(0, 0), -2);
        Crowd.due("two are told", Crowd.told(TWO).objector(2, 1), -2);
    }

    @Says("-2 if there is none such, or for another what. ## Promise 7")
    static void promise06_anotherWhat() {
        Objections x = Crowd.ofEachSort();
        for (int what : new int[] {-1, 8, Integer.MIN_VALUE, Integer.MAX_VALUE}) {
            for (int i = 0; i < 7; i++) {
                Crowd.due("objector(" + i + ", " + what + ")", x.objector(i, what), -2);
            }
        }
    }

    // ---- promise 7

    @Says("-1000000000 if he does not WAIT, or there is none such. ## Promise 8")
    static void promise07_whoDoesNotWait() {
        Objections x = Crowd.ofEachSort();
        for (int i = 0; i < 6; i++) {
            Crowd.due("ranks(" + i + ")", x.ranks(i), NO_ORDER);
        }
        Crowd.due("who WAITS", x.ranks(6), 1);
    }

    @Says("-1000000000 if he does not WAIT, or there is none such. ## Promise 8")
    static void promise07_noneSuch() {
        Objections x = Crowd.ofEachSort();
        for (int none : NONE_SUCH) {
            Crowd.due("ranks(" + none + ")", x.ranks(none), NO_ORDER);
        }
        Crowd.due("without OBJECTORS", new Objections().ranks(0), NO_ORDER);
    }

    @Says("what comes of order (his grave, if it is not told)")
    static void promise07_hisGraveIfOrderIsNotTold() {
        Objections x = Crowd.told("objector a grave 0 minutes 9;objector b grave 99 minutes 9;answer minutes;");
        Crowd.due("ranks(0)", x.ranks(0), 0);
        Crowd.due("ranks(1)", x.ranks(1), 99);
    }

    @Says("waited (the minute less that at which he came)")
    static void promise07_waitedSinceHeCame() {
        Objections x = Crowd.told("objector a grave 1 minutes 7;objector b grave 1 minutes 1 late;objector c grave 1 minutes 1;brings a b;"
                + "order waited*100+minute;");
        Crowd.due("at first", x.ranks(0), 0);
        x.hear();
        Crowd.due("came now", x.ranks(1), 7);
        Crowd.due("came at 0", x.ranks(2), 707);
        x.pause(1);
        Crowd.due("came at 7", x.ranks(1), 108);
    }

    @Says("number (his NUMBER)")
    static void promise07_numberIsHisOwn() {
        Objections x = Crowd.told(TWO + "order number;");
        Crowd.due("ranks(0)", x.ranks(0), 0);
        Crowd.due("trade", x.trade(0, 1), 1);
        Crowd.due("ranks(0)", x.ranks(0), 1);
        Crowd.due("ranks(1)", x.ranks(1), 0);
    }

    @Says("heard (how many were ANSWERED or STAND)")
    static void promise07_onlyAnsweredAndStandingOnesAreHeard() {
        Objections x = Crowd.told("objector a grave 9 minutes 1;objector b grave 8 minutes 1;objector c grave 1 minutes 1;"
                + "objector d grave 1 minutes 1 stays 1;objector e grave 1 minutes 1;objector f grave 1 minutes 1 late;objector g grave 1 minutes 1;"
                + "settles b c;answer (grave=9)*100;order grave*100+heard;");
        Crowd.due("none", x.ranks(6), 100);
        x.hear();
        Crowd.due("one ANSWERED", x.ranks(6), 101);
        x.hear();
        x.buy(4);
        Crowd.is(x, 1, 2, 3, 4, 5, 6, 0);
        Crowd.due("one STANDS, too; the others don't count", x.ranks(6), 102);
    }

    @Says("(0 at first; ints, wrapping;")
    static void promise07_wrapping() {
        order("9999*9999*9999", (int) (9999L * 9999 * 9999));
        order("2048*1024*1024", Integer.MIN_VALUE);
        order("2048*1024*1024-1", Integer.MAX_VALUE);
        order("2048*1024*1024-1+1", Integer.MIN_VALUE);
        order("0-2048*1024*1024", Integer.MIN_VALUE);
        order("4096*1024*1024", 0);
        order("2048*1024*1024*3", Integer.MIN_VALUE);
    }

    @Says("/ cut, % its rest, both by 0: 0;")
    static void promise07_byZero() {
        order("7/0", 0);
        order("7%0", 0);
        order("(0-7)/(grave-7)", 0);
        order("(0-7)%(grave-7)", 0);
        order("0/0", 0);
        order("5+7/waited", 5);
        order("5+7%waited", 5);
    }

    @Says("/ cut, % its rest")
    static void promise07_cutAndItsRest() {
        order("7/2", 3);
        order("(0-7)/2", -3);
        order("7/(0-2)", -3);
        order("(0-7)/(0-2)", 3);
        order("7%2", 1);
        order("(0-7)%2", -1);
        order("7%(0-2)", 1);
        order("(0-7)%(0-2)", -1);
        order("1/2", 0);
        order("1%2", 1);
    }

    @Says("(0 at first; ints, wrapping; / cut, % its rest")
    static void promise07_theLeastNumberByMinusOne() {
        order("2048*1024*1024/(0-1)", Integer.MIN_VALUE);
        order("2048*1024*1024%(0-1)", 0);
    }

    @Says("relations, and, or, not are 1 or 0")
    static void promise07_relationsAre1Or0() {
        order("2<2", 0);
        order("2<3", 1);
        order("3<2", 0);
        order("2>2", 0);
        order("3>2", 1);
        order("2>3", 0);
        order("2=2", 1);
        order("2=3", 0);
        order("0-1<0", 1);
        order("2048*1024*1024<0", 1);
        order("2048*1024*1024>2048*1024*1024-1", 0);
    }

    @Says("relations, and, or, not are 1 or 0, of what is not 0)")
    static void promise07_andOrNotOfWhatIsNot0() {
        order("5 and 7", 1);
        order("0-1 and 2", 1);
        order("5 and 0", 0);
        order("0 and 5", 0);
        order("0 and 0", 0);
        order("5 or 0", 1);
        order("0 or 0-5", 1);
        order("5 or 7", 1);
        order("0 or 0", 0);
        order("not 0", 1);
        order("not 7", 0);
        order("not (0-7)", 0);
        order("not not 7", 1);
        order("not not 0", 0);
    }

    @Says("e = both {or both}. both = one {and one}. one = not one | sum [(< | > | =) sum]. sum = term {(+ | -) term}.")
    static void promise07_whatBindsCloser() {
        order("1 or 1 and 0", 1);
        order("0 and 1 or 1", 1);
        order("not 1 or 1", 1);
        order("not 0 and 0", 0);
        order("not 5<3", 1);
        order("1+2<2+2", 1);
        order("2=1+1", 1);
        order("2+3*4", 14);
        order("2*3+4", 10);
        order("9-3-2", 4);
        order("9-3+2", 8);
        order("60/6/2", 5);
        order("60/6*2", 20);
        order("17%10%4", 3);
        order("2*7%4", 2);
    }

    @Says("60 units in all, 30 in one e")
    static void promise07_thirtyUnitsAreAllTaken() {
        order("1" + "+2".repeat(29), 59);
        order("0" + " or 0".repeat(28) + " or 3", 1);
        // each unit but the last is kept till the end
        order("1-(2-(3-(4-(5-(6-(7-(8)))))))", -4);
        String nots = "not not not not not not not 1";
        order(nots + (" and " + nots).repeat(29), 0);
        order("not " + nots.substring(8) + (" and not " + nots.substring(8)).repeat(29), 1);
    }

    // ---- promise 8

    @Says("He whose TURN it is is HEARD: who; NONE, doing nothing, if nobody WAITS.")
    static void promise08_nobodyWaits() {
        Objections x = new Objections();
        Crowd.due("nobody is there", x.hear(), -1);
        is(x, 0, 0, 0, 0, 0);
        x = Crowd.told("objector a grave 1 minutes 1 late;draw 5;");
        Crowd.due("one is AWAY", x.hear(), -1);
        is(x, 0, 5, 0, 0, 0);
        x = Crowd.told(TWO);
        x.hear();
        x.buy(1);
        x.pause(5);
        x.undo();
        Crowd.due("nobody is left", x.hear(), -1);
        is(x, 1, 71, 3, 2, 1);
    }

    @Says("TURN: of those who WAIT he of the greatest ORDER, of like ones the least NUMBER.")
    static void promise08_ofLikeOnesTheLeastNumber() {
        Objections x = Crowd.told(TWO + "objector c grave 1 minutes 1;objector d grave 0 minutes 1;");
        x.trade(0, 2);
        Crowd.due("NUMBER 0", x.hear(), 2);
        Crowd.due("NUMBER 1", x.hear(), 1);
        Crowd.due("NUMBER 2", x.hear(), 0);
        Crowd.due("less grave", x.hear(), 3);
    }

    @Says("TURN: of those who WAIT he of the greatest ORDER")
    static void promise08_theGreatestOrderMayBeBelow0() {
        Objections x = Crowd.told(TWO + "objector c grave 9 minutes 1;order 0-5-number;");
        Crowd.due("-5", x.hear(), 0);
        x = Crowd.told(TWO + "objector c grave 9 minutes 1;order 2048*1024*1024+number;");
        Crowd.due("2 above the least there is", x.hear(), 2);
        x = Crowd.told(TWO + "order 2048*1024*1024-number;");
        Crowd.due("the greatest there is", x.hear(), 1);
    }

    @Says("becomes its 137-fold and 71 more, modulo 1,000")
    static void promise08_theSeedWrapsAround() {
        int[][] rows = {{0, 71}, {6, 893}, {7, 30}, {17, 400}, {777, 520}, {837, 740}, {999, 934}};
        for (int[] row : rows) {
            Objections x = Crowd.told(TWO + "draw " + row[0] + ";");
            x.hear();
            Crowd.due("SEED behind " + row[0], x.about(2), row[1]);
        }
    }

    @Says("the SEED (draw, at first) becomes its 137-fold and 71 more, modulo 1,000")
    static void promise08_theSeedGoesOn() {
        Objections x = Crowd.told(TWO + "objector c grave 1 minutes 1;");
        int[] seeds = {71, 798, 397};
        for (int i = 0; i < 3; i++) {
            Crowd.due("hear", x.hear(), i);
            Crowd.due("SEED", x.about(2), seeds[i]);
        }
    }

    @Says("if its rest by 100 is less than that, he is ANSWERED, else he STANDS")
    static void promise08_theRestMustBeLess() {
        // 0: 71
        heardAs(0, "answer 70;", 2);
        heardAs(0, "answer 71;", 2);
        heardAs(0, "answer 72;", 1);
        // 999: 934, of which 34 counts
        heardAs(999, "answer 34;", 2);
        heardAs(999, "answer 35;", 1);
    }

    @Says("if its rest by 100 is less than that, he is ANSWERED, else he STANDS")
    static void promise08_theLeastAndTheGreatestRest() {
        // 17: 400, 44: 99
        heardAs(17, "answer 0;", 2);
        heardAs(17, "answer 0-1;", 2);
        heardAs(17, "answer 1;", 1);
        heardAs(44, "answer 99;", 2);
        heardAs(44, "answer 100;", 1);
        heardAs(44, "answer 9999;", 1);
        heardAs(17, "answer 2048*1024*1024;", 2);
    }

    @Says("what comes of answer (100, if it is not told) by the same is taken")
    static void promise08_allAreAnsweredIfAnswerIsNotTold() {
        heardAs(44, "", 1);
        heardAs(0, "order 0;", 1);
    }

    @Says("what comes of answer (100, if it is not told) by the same is taken; the minute is more by his minutes")
    static void promise08_answerIsTakenAheadOfBeingHeard() {
        Objections x = Crowd.told("objector a grave 1 minutes 9;objector b grave 1 minutes 9;answer (waited+minute+heard=0)*100;");
        x.hear();
        Crowd.is(x, 1, 0);
        x.hear();
        Crowd.is(x, 1, 2);
        x = Crowd.told("objector a grave 1 minutes 9;objector b grave 1 minutes 9;answer (waited=9 and minute=9 and heard=1)*100;");
        x.hear();
        Crowd.is(x, 2, 0);
        x.hear();
        Crowd.is(x, 2, 1);
    }

    @Says("whom he settles and who WAITS WITHDREW")
    static void promise08_onlyWhoWaitsIsSettled() {
        Objections x = Crowd.told("objector a grave 9 minutes 1;objector b grave 8 minutes 1;objector c grave 1 minutes 1;"
                + "objector d grave 1 minutes 1 stays 1;objector e grave 1 minutes 1;objector f grave 1 minutes 1 late;objector g grave 1 minutes 1;"
                + "settles b c;answer (grave=9)*100;settles g a;settles g b;settles g d;settles g e;settles g f;");
        x.hear();
        x.hear();
        x.buy(4);
        Crowd.due("hear", x.hear(), 6);
        Crowd.is(x, 1, 2, 3, 4, 5, 6, 2);
    }

    @Says("whom he brings and who is AWAY WAITS, and came now")
    static void promise08_onlyWhoIsAwayIsBrought() {
        Objections x = Crowd.told("objector a grave 9 minutes 1;objector b grave 8 minutes 1;objector c grave 1 minutes 1;"
                + "objector d grave 1 minutes 1 stays 1;objector e grave 1 minutes 1;objector f grave 1 minutes 1 late;objector g grave 1 minutes 1;"
                + "settles b c;answer (grave=9)*100;brings g a;brings g b;brings g c;brings g d;brings g e;brings g f;");
        x.hear();
        x.hear();
        x.buy(4);
        Crowd.due("hear", x.hear(), 6);
        Crowd.is(x, 1, 2, 3, 4, 5, 0, 2);
        Crowd.due("came now", x.objector(5, 4), 0);
    }

    @Says("whom he brings and who is AWAY WAITS, and came now")
    static void promise08_whoWaitsIsNotBroughtAgain() {
        Objections x = Crowd.told("objector a grave 9 minutes 3;objector b grave 8 minutes 4;objector c grave 1 minutes 1;brings a c;brings b c;");
        x.hear();
        x.hear();
        Crowd.due("c came at 0", x.objector(2, 4), 7);
    }

    @Says("WITHDREW; whom he brings and who is AWAY WAITS")
    static void promise08_oneWhoIsBroughtByTheSameIsNotSettled() {
        Objections x = Crowd.told(TWO + "objector c grave 1 minutes 1 late;settles a c;brings a c;settles a b;brings a b;");
        x.hear();
        Crowd.is(x, 1, 3, 0);
    }

    @Says("then each who WAITS and waited more than he stays LEFT")
    static void promise08_asLongAsHeStaysIsNotMore() {
        Objections x = Crowd.told("objector a grave 9 minutes 5;objector b grave 1 minutes 1 stays 5;objector c grave 1 minutes 1 stays 4;");
        x.hear();
        Crowd.is(x, 1, 0, 4);
        x.pause(1);
        Crowd.is(x, 1, 4, 4);
    }

    @Says("then each who WAITS and waited more than he stays LEFT")
    static void promise08_whoStays0LeavesAtTheFirstMinute() {
        Objections x = Crowd.told("objector a grave 9 minutes 1;objector b grave 1 minutes 1 stays 0;objector c grave 1 minutes 1 stays 0 late;brings a c;");
        x.hear();
        Crowd.is(x, 1, 4, 0);
        x.pause(1);
        Crowd.is(x, 1, 4, 4);
    }

    @Says("WITHDREW; whom he brings and who is AWAY WAITS, and came now; then each who WAITS and waited more than he stays LEFT")
    static void promise08_whoIsSettledDoesNotLeave() {
        Objections x = Crowd.told("objector a grave 9 minutes 9;objector b grave 1 minutes 1 stays 0;settles a b;");
        x.hear();
        Crowd.is(x, 1, 3);
    }

    @Says("He whose TURN it is is HEARD: who; NONE, doing nothing, if nobody WAITS. (An ACT.)")
    static void promise08_anAct() {
        Objections x = Crowd.told(TWO + "draw 5;");
        Crowd.due("hear", x.hear(), 0);
        is(x, 1, 756, 0, 1, 0);
        Crowd.due("undo", x.undo(), true);
        is(x, 0, 5, 0, 0, 1);
        Crowd.is(x, 0, 0);
    }

    // ---- promise 9

    @Says("One is BOUGHT: what is spent in all")
    static void promise09_whatIsSpentInAll() {
        Objections x = Crowd.told("objector a grave 1 minutes 1 price 99;objector b grave 1 minutes 1;objector c grave 1 minutes 1 price 99;draw 3;");
        Crowd.due("buy(0)", x.buy(0), 99);
        Crowd.due("buy(1), for nothing", x.buy(1), 99);
        Crowd.due("buy(2)", x.buy(2), 198);
        Crowd.is(x, 5, 5, 5);
        is(x, 0, 3, 198, 3, 0);
        Crowd.due("undo", x.undo(), true);
        is(x, 0, 3, 99, 2, 1);
    }

    @Says("NONE, doing nothing, if he does not WAIT, or there is none such. (An ACT.) ## Promise 10")
    static void promise09_whoDoesNotWait() {
        Objections x = Crowd.ofEachSort();
        for (int i = 0; i < 6; i++) {
            Crowd.due("buy(" + i + ")", x.buy(i), -1);
        }
        Crowd.is(x, 1, 2, 3, 4, 5, 6, 0);
        is(x, 2, 798, 7, 3, 0);
        Crowd.due("who WAITS", x.buy(6), 12);
    }

    @Says("NONE, doing nothing, if he does not WAIT, or there is none such. (An ACT.) ## Promise 10")
    static void promise09_noneSuch() {
        Objections x = Crowd.ofEachSort();
        for (int none : NONE_SUCH) {
            Crowd.due("buy(" + none + ")", x.buy(none), -1);
        }
        is(x, 2, 798, 7, 3, 0);
        Crowd.due("without OBJECTORS", new Objections().buy(0), -1);
    }

    // ---- promise 10

    @Says("Some minutes are WAITED (1 .. 60): how many LEFT")
    static void promise10_oneAndSixtyMinutes() {
        Objections x = Crowd.told(TWO + "draw 5;");
        Crowd.due("pause(1)", x.pause(1), 0);
        Crowd.due("pause(60)", x.pause(60), 0);
        is(x, 61, 5, 0, 2, 0);
        Crowd.due("nobody is there", new Objections().pause(60), 0);
    }

    @Says("NONE, doing nothing, for another number. (An ACT.)")
    static void promise10_anotherNumber() {
        Objections x = Crowd.told("objector a grave 1 minutes 1 stays 0;draw 5;");
        for (int minutes : new int[] {0, 61, -1, -60, Integer.MIN_VALUE, Integer.MAX_VALUE}) {
            Crowd.due("pause(" + minutes + ")", x.pause(minutes), -1);
        }
        Crowd.is(x, 0);
        is(x, 0, 5, 0, 0, 0);
    }

    @Says("Some minutes are WAITED; then they leave likewise.")
    static void promise10_howManyLeft() {
        Objections x = Crowd.told("objector a grave 1 minutes 1 stays 4;objector b grave 1 minutes 1 stays 5;objector c grave 1 minutes 1 stays 5;"
                + "objector d grave 1 minutes 1 stays 0 late;objector e grave 1 minutes 1;");
        Crowd.due("as long as he stays", x.pause(4), 0);
        Crowd.due("more than a stays", x.pause(1), 1);
        Crowd.due("more than b and c stay", x.pause(1), 2);
        Crowd.due("who LEFT leaves no more", x.pause(60), 0);
        Crowd.is(x, 4, 4, 4, 6, 0);
        x.undo();
        x.undo();
        Crowd.is(x, 4, 0, 0, 6, 0);
    }

    // ---- promise 11

    @Says("Two exchange their NUMBERS: the first one's then")
    static void promise11_theFirstOnesNumberThen() {
        Objections x = Crowd.told(TWO + "objector c grave 1 minutes 1;draw 5;");
        Crowd.due("trade(0, 2)", x.trade(0, 2), 2);
        Crowd.due("trade(1, 0)", x.trade(1, 0), 2);
        int[] numbers = {1, 2, 0};
        for (int i = 0; i < 3; i++) {
            Crowd.due("objector(" + i + ", 3)", x.objector(i, 3), numbers[i]);
        }
        is(x, 0, 5, 0, 2, 0);
        Crowd.due("undo", x.undo(), true);
        Crowd.due("objector(0, 3)", x.objector(0, 3), 2);
        Crowd.due("objector(1, 3)", x.objector(1, 3), 1);
    }

    @Says("NONE, doing nothing, if one does not WAIT, both are one, or one can't be.")
    static void promise11_oneDoesNotWait() {
        Objections x = Crowd.ofEachSort();
        for (int i = 0; i < 6; i++) {
            Crowd.due("trade(6, " + i + ")", x.trade(6, i), -1);
            Crowd.due("trade(" + i + ", 6)", x.trade(i, 6), -1);
            Crowd.due("NUMBER", x.objector(i, 3), i);
        }
        is(x, 2, 798, 7, 3, 0);
    }

    @Says("both are one, or one can't be.")
    static void promise11_bothAreOne() {
        Objections x = Crowd.told(TWO);
        Crowd.due("trade(0, 0)", x.trade(0, 0), -1);
        Crowd.due("trade(1, 1)", x.trade(1, 1), -1);
        is(x, 0, 0, 0, 0, 0);
    }

    @Says("both are one, or one can't be.")
    static void promise11_oneCantBe() {
        Objections x = Crowd.ofEachSort();
        for (int none : NONE_SUCH) {
            Crowd.due("trade(6, " + none + ")", x.trade(6, none), -1);
            Crowd.due("trade(" + none + ", 6)", x.trade(none, 6), -1);
            Crowd.due("trade(" + none + ", " + none + ")", x.trade(none, none), -1);
        }
        is(x, 2, 798, 7, 3, 0);
        Crowd.due("without OBJECTORS", new Objections().trade(0, 1), -1);
    }

    // ---- promises 12 and 13

    @Says("UNDO: true; false if there is none.")
    static void promise12_noneToUndo() {
        Objections x = Crowd.told(TWO);
        Crowd.due("undo", x.undo(), false);
        Crowd.due("pause", x.pause(1), 0);
        Crowd.due("undo", x.undo(), true);
        Crowd.due("undo", x.undo(), false);
        is(x, 0, 0, 0, 0, 1);
    }

    @Says("UNDO takes back the latest ACT that was not")
    static void promise12_eachActIsTakenBackWhole() {
        Objections x = Crowd.told("objector a grave 1 minutes 2;objector b grave 1 minutes 1 stays 1 price 3;objector c grave 9 minutes 5 late;"
                + "objector d grave 0 minutes 1;settles a d;brings a c;answer 0;draw 5;");
        x.trade(1, 3);
        x.hear();
        Crowd.is(x, 2, 4, 0, 3);
        x.pause(10);
        Crowd.due("undo pause", x.undo(), true);
        is(x, 2, 756, 0, 2, 1);
        Crowd.due("undo hear", x.undo(), true);
        Crowd.is(x, 0, 0, 6, 0);
        is(x, 0, 5, 0, 1, 2);
        Crowd.due("undo trade", x.undo(), true);
        Crowd.due("objector(1, 3)", x.objector(1, 3), 1);
        x.buy(1);
        Crowd.due("undo buy", x.undo(), true);
        is(x, 0, 5, 0, 0, 1);
        Crowd.is(x, 0, 0, 6, 0);
    }

    @Says("UNDO takes back the latest ACT that was not")
    static void promise12_onlyActsAreTakenBack() {
        Objections x = Crowd.told(TWO);
        x.pause(4);
        x.seen(1, 0, true);
        x.untell(0);
        x.later(9);
        x.queue();
        x.image(0);
        Crowd.feed(x, "bar");
        Crowd.due("undo", x.undo(), true);
        Crowd.about(x, 2, 0, 0, 0, 100, 0, 3, 0, 0, 1, 1, 9, 3, 0, 2);
        Crowd.due("UNTOLD already", x.untell(0), false);
        Crowd.due("undo", x.undo(), false);
        Crowd.due("back", x.back(0), 4);
    }

    @Says("UNDO takes back the latest ACT that was not")
    static void promise12_eachOneCameWhenHeDid() {
        for (int late = 0; late < 7; late++) {
            Objections x = Crowd.told(Crowd.oneBrought(late));
            x.hear();
            x.pause(2);
            x.pause(4);
            Crowd.due("undo", x.undo(), true);
            Crowd.due("undone, objector(" + late + ", 4)", x.objector(late, 4), 2);
            Crowd.due("redo", x.redo(), true);
            Crowd.due("redone, objector(" + late + ", 4)", x.objector(late, 4), 6);
            for (int i = 0; i < 3; i++) {
                x.undo();
            }
            Crowd.due("objector(" + late + ", 0)", x.objector(late, 0), 6);
            x.pause(10);
            x.hear();
            Crowd.due("he came now", x.objector(late, 4), 0);
        }
    }

    @Says("REDO does that again which was taken back last (till another ACT); 40 at most are kept, the oldest go.")
    static void promise12_fortyAtMostTheOldestGo() {
        Objections x = Crowd.told(TWO);
        for (int i = 1; i <= 40; i++) {
            x.pause(i);
        }
        Crowd.due("about(8)", x.about(8), 40);
        x.pause(41);
        Crowd.due("about(8)", x.about(8), 40);
        for (int i = 41; i > 1; i--) {
            Crowd.due("undo", x.undo(), true);
            Crowd.due("minute", x.about(1), i * (i - 1) / 2);
        }
        Crowd.due("the oldest went", x.undo(), false);
        is(x, 1, 0, 0, 0, 40);
    }

    @Says("40 at most are kept, the oldest go.")
    static void promise12_fortyExactlyAreAllKept() {
        Objections x = Crowd.told(TWO);
        for (int i = 1; i <= 40; i++) {
            x.pause(1);
        }
        for (int i = 1; i <= 40; i++) {
            Crowd.due("undo", x.undo(), true);
        }
        is(x, 0, 0, 0, 0, 40);
        Crowd.due("undo", x.undo(), false);
    }

    @Says("REDO: true; false if there is none.")
    static void promise13_noneToRedo() {
        Objections x = Crowd.told(TWO);
        Crowd.due("redo", x.redo(), false);
        x.pause(1);
        Crowd.due("nothing taken back", x.redo(), false);
        x.undo();
        Crowd.due("redo", x.redo(), true);
        Crowd.due("redo", x.redo(), false);
        is(x, 1, 0, 0, 1, 0);
    }

    @Says("REDO does that again which was taken back last")
    static void promise13_whatWasTakenBackLastComesFirst() {
        Objections x = Crowd.told("objector a grave 9 minutes 2;objector b grave 1 minutes 1 price 3;objector c grave 1 minutes 1;answer 0;draw 5;");
        x.trade(1, 2);
        x.buy(1);
        x.hear();
        x.pause(7);
        for (int i = 0; i < 4; i++) {
            Crowd.due("undo", x.undo(), true);
        }
        Crowd.due("redo trade", x.redo(), true);
        is(x, 0, 5, 0, 1, 3);
        Crowd.due("objector(1, 3)", x.objector(1, 3), 2);
        Crowd.due("redo buy", x.redo(), true);
        is(x, 0, 5, 3, 2, 2);
        Crowd.due("redo hear", x.redo(), true);
        is(x, 2, 756, 3, 3, 1);
        Crowd.is(x, 2, 5, 0);
        Crowd.due("redo pause", x.redo(), true);
        is(x, 9, 756, 3, 4, 0);
    }

    @Says("(till another ACT)")
    static void promise13_nothingIsRedoneBehindAnotherAct() {
        for (int act = 0; act < 4; act++) {
            Objections x = Crowd.told(TWO + "objector c grave 1 minutes 1;");
            x.pause(1);
            x.pause(2);
            x.undo();
            int answer = act == 0 ? x.hear() : act == 1 ? x.buy(0) : act == 2 ? x.pause(5) : x.trade(0, 1);
            Crowd.due("the ACT", answer >= 0, true);
            Crowd.due("about(9)", x.about(9), 0);
            Crowd.due("redo", x.redo(), false);
            Crowd.due("about(8)", x.about(8), 2);
        }
    }

    @Says("(till another ACT)")
    static void promise13_whatDoesNothingIsNoAct() {
        Objections x = Crowd.told(TWO + "objector c grave 1 minutes 1 late;");
        x.hear();
        x.hear();
        x.pause(1);
        x.undo();
        x.hear();
        x.buy(2);
        x.pause(0);
        x.trade(0, 2);
        x.image(0);
        x.seen(1, 1, true);
        x.later(1);
        x.course();
        Crowd.due("about(9)", x.about(9), 1);
        Crowd.due("redo", x.redo(), true);
        is(x, 3, 798, 0, 3, 0);
    }

    @Says("40 at most are kept, the oldest go.")
    static void promise13_fortyAreRedone() {
        Objections x = Crowd.told(TWO);
        for (int i = 1; i <= 43; i++) {
            x.pause(i);
        }
        for (int i = 0; i < 40; i++) {
            x.undo();
        }
        is(x, 6, 0, 0, 0, 40);
        for (int i = 4; i <= 43; i++) {
            Crowd.due("redo", x.redo(), true);
            Crowd.due("minute", x.about(1), i * (i + 1) / 2);
        }
        Crowd.due("redo", x.redo(), false);
        is(x, 946, 0, 0, 40, 0);
    }

    // ---- promises 42 and 43

    @Says("are kept in a BOX 0 .. 2: the minute; NONE if there is none such.")
    static void promise42_threeBoxes() {
        Objections x = Crowd.told(TWO);
        for (int box = 0; box < 3; box++) {
            x.pause(box + 1);
            Crowd.due("image(" + box + ")", x.image(box), (box + 1) * (box + 2) / 2);
        }
        for (int box = 2; box >= 0; box--) {
            Crowd.due("back(" + box + ")", x.back(box), (box + 1) * (box + 2) / 2);
        }
        Crowd.due("without OBJECTORS", new Objections().image(0), 0);
    }

    @Says("NONE if there is none such. ## Promise 43")
    static void promise42_noneSuch() {
        Objections x = Crowd.told(TWO);
        x.pause(5);
        for (int box : new int[] {-1, 3, 32, Integer.MIN_VALUE, Integer.MAX_VALUE}) {
            Crowd.due("image(" + box + ")", x.image(box), -1);
            Crowd.due("back(" + box + ")", x.back(box), -1);
        }
        for (int box = 0; box < 3; box++) {
            Crowd.due("back(" + box + ")", x.back(box), -1);
        }
        is(x, 5, 0, 0, 1, 0);
    }

    @Says("What OBJECTORS are, when they came, NUMBERS, the minute, what is spent, the SEED are kept in a BOX")
    static void promise42_theLatestImageIsKept() {
        Objections x = Crowd.told(TWO);
        x.image(1);
        x.pause(5);
        Crowd.due("image over it", x.image(1), 5);
        x.pause(7);
        Crowd.due("back", x.back(1), 5);
        is(x, 5, 0, 0, 0, 0);
    }

    @Says("What OBJECTORS are, when they came, NUMBERS, the minute, what is spent, the SEED are kept in a BOX")
    static void promise42_isNoAct() {
        Objections x = Crowd.told(TWO);
        x.pause(1);
        x.pause(2);
        x.undo();
        x.image(0);
        is(x, 1, 0, 0, 1, 1);
    }

    @Says("All is as it was kept (no ACTS are kept then): the minute")
    static void promise43_allIsAsItWasKept() {
        Objections x = Crowd.told("objector a grave 9 minutes 2;objector b grave 1 minutes 1 late;objector c grave 5 minutes 1 price 4;"
                + "objector d grave 1 minutes 1;objector e grave 1 minutes 1;brings a b;answer 0;draw 5;");
        x.hear();
        x.buy(2);
        x.trade(3, 4);
        x.pause(3);
        Crowd.due("image", x.image(0), 5);
        x.trade(1, 3);
        x.hear();
        x.buy(1);
        Crowd.due("back", x.back(0), 5);
        Crowd.is(x, 2, 0, 5, 0, 0);
        is(x, 5, 756, 4, 0, 0);
        int[] numbers = {0, 1, 2, 4, 3};
        for (int i = 0; i < 5; i++) {
            Crowd.due("objector(" + i + ", 3)", x.objector(i, 3), numbers[i]);
        }
        Crowd.due("b came at 2", x.objector(1, 4), 3);
        Crowd.due("d came at 0", x.objector(3, 4), 5);
    }

    @Says("What OBJECTORS are, when they came")
    static void promise43_whenTheyCameIsKept() {
        for (int late = 0; late < 7; late++) {
            Objections x = Crowd.told(Crowd.oneBrought(late));
            x.image(1);
            x.hear();
            x.image(0);
            Crowd.due("back", x.back(1), 0);
            x.pause(10);
            x.hear();
            x.image(2);
            Crowd.due("back", x.back(0), 5);
            x.pause(1);
            Crowd.due("he came at 5", x.objector(late, 4), 1);
            Crowd.due("back", x.back(2), 15);
            x.pause(3);
            Crowd.due("he came at 15", x.objector(late, 4), 3);
        }
    }

    @Says("NUMBERS, the minute, what is spent, the SEED are kept in a BOX")
    static void promise43_eachOnesNumberIsKept() {
        for (int i = 0; i < 7; i++) {
            Objections x = Crowd.told(Crowd.oneBrought(6));
            int other = (i + 3) % 7;
            x.hear();
            x.image(0);
            int answer = x.trade(i, other);
            Crowd.due("trade", answer, i == 0 || other == 0 ? -1 : other);
            x.back(0);
            Crowd.due("objector(" + i + ", 3)", x.objector(i, 3), i);
            Crowd.due("objector(" + other + ", 3)", x.objector(other, 3), other);
        }
    }

    @Says("(no ACTS are kept then)")
    static void promise43_noActsAreKeptThen() {
        Objections x = Crowd.told(TWO);
        x.pause(1);
        x.image(0);
        x.pause(2);
        x.pause(3);
        x.undo();
        Crowd.due("back", x.back(0), 1);
        is(x, 1, 0, 0, 0, 0);
        Crowd.due("undo", x.undo(), false);
        Crowd.due("redo", x.redo(), false);
        is(x, 1, 0, 0, 0, 0);
    }

    @Says("NONE, doing nothing, if nothing was. ## Promise 44")
    static void promise43_nothingWasKept() {
        Objections x = Crowd.told(TWO);
        x.image(1);
        x.pause(1);
        x.pause(2);
        x.undo();
        for (int box : new int[] {0, 2, -1, 3, 33, Integer.MIN_VALUE, Integer.MAX_VALUE}) {
            Crowd.due("back(" + box + ")", x.back(box), -1);
        }
        is(x, 1, 0, 0, 1, 1);
        Crowd.due("redo", x.redo(), true);
        Crowd.due("without OBJECTORS", new Objections().back(0), -1);
    }

    @Says("All is as it was kept")
    static void promise43_aBoxCanBeGoneBackToAgain() {
        Objections x = Crowd.told(TWO);
        x.pause(4);
        x.image(2);
        for (int i = 0; i < 3; i++) {
            x.hear();
            x.buy(1);
            Crowd.due("back", x.back(2), 4);
            Crowd.is(x, 0, 0);
        }
    }

    @Says("What OBJECTORS are, when they came, NUMBERS, the minute, what is spent, the SEED are kept")
    static void promise43_nothingElseGoesBack() {
        Objections x = Crowd.told(TWO);
        x.image(0);
        x.seen(1, 1, true);
        x.seen(1, 0, true);
        x.untell(1);
        x.later(7);
        x.queue();
        x.hear();
        Crowd.feed(x, "bar");
        x.image(1);
        Crowd.due("back", x.back(0), 0);
        Crowd.due("SEEN", x.about(10), 2);
        Crowd.due("UNTOLD already", x.untell(1), false);
        Crowd.due("TIME", x.about(11), 7);
        Crowd.due("TAPE", x.about(12), 3);
        Crowd.row(x, 0, 1);
        Crowd.due("another BOX", x.back(1), 1);
    }
}
