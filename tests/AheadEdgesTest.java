import java.io.IOException;
import java.util.ArrayList;
import java.util.Arrays;
import java.util.List;

/** Promises 14 to 23, 27, 28 and 31 to 35: each sentence that names a boundary case of what will be, and would be best. */
public final class AheadEdgesTest {
    private static final String THREE = "objector a grave 5 minutes 10 price 3;objector b grave 5 minutes 20 price 3;"
            + "objector c grave 5 minutes 30 price 6;";
    private static final String SEVEN = "objector a grave 1 minutes 1;objector b grave 2 minutes 1;objector c grave 3 minutes 1;objector d grave 4 minutes 1;"
            + "objector e grave 5 minutes 1;objector f grave 6 minutes 1;objector g grave 7 minutes 1;";
    // b settles a, who would take long; by TURNS he comes behind him
    private static final String SETTLER = "objector a grave 9 minutes 50;objector b grave 1 minutes 2;settles b a;";
    private static final int NO_GAIN = -1000000000;
    private static final int[] NONE_SUCH = {-1, 7, 8, 31, 32, 38, Integer.MIN_VALUE, Integer.MAX_VALUE};
    private static final int[] OTHERS = {-1, 2, Integer.MIN_VALUE, Integer.MAX_VALUE};

    public static void main(String[] args) throws IOException {
        Sentences.run(AheadEdgesTest.class);
    }

    private static void isStillAsTold(Objections x, int people, int minute) {
        for (int i = 0; i < people; i++) {
            Crowd.due("objector(" + i + ", 0)", x.objector(i, 0), 0);
            Crowd.due("objector(" + i + ", 3)", x.objector(i, 3), i);
        }
        Crowd.due("minute", x.about(1), minute);
        Crowd.due("spent", x.about(3), 0);
    }

    /** An object in which nobody WAITS: one is AWAY, one LEFT; at minute 9. */
    private static Objections nobodyWaits() {
        Objections x = Crowd.told("objector a grave 1 minutes 1 late;objector b grave 1 minutes 1 stays 5;brings b a;");
        Crowd.due("queue", x.queue(), 1);
        Crowd.due("pause", x.pause(9), 1);
        return x;
    }

    // ---- promise 14

    @Says("Whose TURN it is; NONE if nobody WAITS.")
    static void promise14_nobodyWaits() {
        Crowd.due("next", nobodyWaits().next(), -1);
        Crowd.due("without OBJECTORS", new Objections().next(), -1);
        Crowd.due("one of each sort", Crowd.ofEachSort().next(), 6);
    }

    @Says("he of the greatest ORDER, of like ones the least NUMBER.")
    static void promise14_ofLikeOnesTheLeastNumber() {
        Objections x = Crowd.told(THREE);
        Crowd.due("next", x.next(), 0);
        x.trade(0, 2);
        Crowd.due("next", x.next(), 2);
        x.buy(2);
        Crowd.due("next", x.next(), 1);
        Crowd.due("nobody was HEARD", x.about(1), 0);
    }

    // ---- promise 15

    @Says("How many WAIT. They lie there then")
    static void promise15_nobodyWaits() {
        Objections x = nobodyWaits();
        Crowd.row(x, 1);
        Crowd.due("queue", x.queue(), 0);
        Crowd.row(x);
        Crowd.due("without OBJECTORS", new Objections().queue(), 0);
    }

    @Says("How many WAIT. They lie there then, by ORDER")
    static void promise15_allSevenByOrder() {
        Objections x = Crowd.told(SEVEN);
        Crowd.due("queue", x.queue(), 7);
        Crowd.row(x, 6, 5, 4, 3, 2, 1, 0);
        isStillAsTold(x, 7, 0);
    }

    @Says("by ORDER (of like ones the least NUMBER). ## Promise 16")
    static void promise15_ofLikeOnesTheLeastNumber() {
        Objections x = Crowd.told(THREE + "objector d grave 6 minutes 1;");
        Crowd.due("queue", x.queue(), 4);
        Crowd.row(x, 3, 0, 1, 2);
        x.trade(0, 2);
        Crowd.due("queue", x.queue(), 4);
        Crowd.row(x, 3, 2, 1, 0);
    }

    @Says("By what is now; nothing is done")
    static void promise15_byOrderAsItIsNow() {
        // once one is HEARD, it goes the other way round
        Objections x = Crowd.told(THREE + "order (heard=0)*minutes-(heard>0)*minutes;");
        Crowd.due("queue", x.queue(), 3);
        Crowd.row(x, 2, 1, 0);
        Crowd.due("course", x.course(), 3);
        Crowd.row(x, 2, 0, 1);
    }

    // ---- promises 16 to 19

    @Says("DUSK (the minute now, if nobody WAITS).")
    static void promise16_nobodyWaits() {
        Objections x = new Objections();
        Crowd.due("dusk", x.dusk(), 0);
        x.pause(7);
        Crowd.due("dusk", x.dusk(), 7);
        Crowd.due("dusk", nobodyWaits().dusk(), 9);
    }

    @Says("DUSK: the minute at which nobody WAITS any more.")
    static void promise16_whoLeavesOrIsSettledIsNotHeard() {
        Crowd.due("all are HEARD", Crowd.told(THREE).dusk(), 60);
        Crowd.due("c WITHDREW", Crowd.told(THREE + "settles a c;").dusk(), 30);
        Crowd.due("b LEFT", Crowd.told("objector a grave 9 minutes 5;objector b grave 1 minutes 7 stays 4;").dusk(), 5);
        Crowd.due("b did not", Crowd.told("objector a grave 9 minutes 5;objector b grave 1 minutes 7 stays 5;").dusk(), 12);
        Crowd.due("b is brought", Crowd.told("objector a grave 9 minutes 5;objector b grave 1 minutes 7 late;brings a b;").dusk(), 12);
        Crowd.due("b stays AWAY", Crowd.told("objector a grave 9 minutes 5;objector b grave 1 minutes 7 late;").dusk(), 5);
    }

    @Says("all are ANSWERED, if not told otherwise; it goes on by TURNS, without a pause.")
    static void promise16_answerIsNotAskedAhead() {
        Objections x = Crowd.told(THREE + "answer 0;");
        Crowd.due("dusk", x.dusk(), 60);
        Crowd.due("weight", x.weight(), 0);
        Crowd.due("SEED", x.about(2), 0);
        isStillAsTold(x, 3, 0);
    }

    private static Objections mixed() {
        return Crowd.told("objector a grave 9 minutes 5;objector b grave 8 minutes 5 stays 4;objector c grave 7 minutes 5;objector d grave 6 minutes 5 late;"
                + "objector e grave 5 minutes 5 late;objector f grave 4 minutes 3;settles a c;brings a e;");
    }

    @Says("WHEN; NONE if he will not be HEARD, or there is none such.")
    static void promise17_whoWillNotBeHeard() {
        Objections x = mixed();
        Crowd.due("at once", x.when(0), 0);
        Crowd.due("he will LEAVE", x.when(1), -1);
        Crowd.due("he will WITHDRAW", x.when(2), -1);
        Crowd.due("he stays AWAY", x.when(3), -1);
        Crowd.due("he is brought", x.when(4), 5);
        Crowd.due("the last one", x.when(5), 10);
        x.hear();
        Crowd.due("he was HEARD already", x.when(0), -1);
        x.buy(4);
        Crowd.due("he was BOUGHT", x.when(4), -1);
        Crowd.due("at once, by now", x.when(5), 5);
    }

    @Says("NONE if he will not be HEARD, or there is none such.")
    static void promise17_noneSuch() {
        Objections x = Crowd.told(SEVEN);
        for (int none : NONE_SUCH) {
            Crowd.due("when(" + none + ")", x.when(none), -1);
        }
        Crowd.due("without OBJECTORS", new Objections().when(0), -1);
        Crowd.due("three are told", Crowd.told(THREE).when(3), -1);
    }

    @Says("How many will be HEARD. They lie there then, in this order.")
    static void promise18_nobodyWillBeHeard() {
        Objections x = nobodyWaits();
        Crowd.due("course", x.course(), 0);
        Crowd.row(x);
        Crowd.due("without OBJECTORS", new Objections().course(), 0);
    }

    @Says("How many will be HEARD. They lie there then, in this order.")
    static void promise18_allSevenAndOnesWhoAreBrought() {
        Objections x = Crowd.told(SEVEN);
        Crowd.due("course", x.course(), 7);
        Crowd.row(x, 6, 5, 4, 3, 2, 1, 0);
        isStillAsTold(x, 7, 0);
        x = mixed();
        Crowd.due("course", x.course(), 3);
        Crowd.row(x, 0, 4, 5);
    }

    @Says("Those who WAIT now, and will LEAVE, as bits.")
    static void promise19_onlyWhoWaitsNowAndLeaves() {
        Objections x = mixed();
        Crowd.due("b", x.leavers(), 2);
        x.pause(5);
        Crowd.due("b LEFT already", x.leavers(), 0);
        // d stays as long as he waited, when he is heard; e is brought, and leaves
        x = Crowd.told("objector a grave 9 minutes 5;objector b grave 1 minutes 1 stays 4;objector c grave 1 minutes 1 stays 4;"
                + "objector d grave 1 minutes 1 stays 5;objector e grave 0 minutes 1 stays 0 late;brings a e;");
        Crowd.due("b and c", x.leavers(), 6);
        x.hear();
        Crowd.due("e WAITS now", x.leavers(), 16);
        Crowd.due("nobody leaves", Crowd.told(THREE).leavers(), 0);
        Crowd.due("nobody WAITS", nobodyWaits().leavers(), 0);
        Crowd.due("without OBJECTORS", new Objections().leavers(), 0);
    }

    @Says("Those who WAIT now, and will LEAVE, as bits.")
    static void promise19_whoWithdrawsDoesNotLeave() {
        Crowd.due("leavers", Crowd.told("objector a grave 9 minutes 5;objector b grave 1 minutes 1 stays 4;settles a b;").leavers(), 0);
    }

    @Says("By what is now; nothing is done")
    static void promise18_whatWasAheadIsNoMatter() {
        Objections x = Crowd.told(THREE);
        Crowd.due("course", x.course(), 3);
        x.buy(0);
        x.buy(1);
        x.buy(2);
        Crowd.due("by", x.by(9999), 0);
        Crowd.due("when", x.when(0), -1);
        Crowd.due("upset", x.upset(), 0);
        Crowd.due("course", x.course(), 0);
        Crowd.row(x);
        Crowd.due("soonest", x.soonest(), 0);
        Crowd.row(x);
        x.undo();
        Crowd.due("course", x.course(), 1);
        Crowd.row(x, 2);
    }

    // ---- promise 20

    @Says("SOONEST: the minute. Who is HEARD lies there then, in order.")
    static void promise20_nobodyWaits() {
        Objections x = nobodyWaits();
        Crowd.due("soonest", x.soonest(), 9);
        Crowd.row(x);
        Crowd.due("without OBJECTORS", new Objections().soonest(), 0);
    }

    @Says("by hearing them in whichever order (always one who WAITS), the minute of DUSK that is least")
    static void promise20_theLeastMinute() {
        Objections x = Crowd.told(SETTLER);
        Crowd.due("dusk", x.dusk(), 52);
        Crowd.due("soonest", x.soonest(), 2);
        Crowd.row(x, 1);
        isStillAsTold(x, 2, 0);
        x = Crowd.told("objector a grave 9 minutes 50;objector b grave 1 minutes 2 late;settles b a;");
        Crowd.due("b does not WAIT", x.soonest(), 50);
        Crowd.row(x, 0);
    }

    @Says("(always one who WAITS), the minute of DUSK that is least")
    static void promise20_whoWaitedMoreThanHeStaysIsNotHeard() {
        Objections x = Crowd.told("objector b grave 9 minutes 50 stays 4;objector a grave 1 minutes 5;");
        Crowd.due("soonest", x.soonest(), 5);
        Crowd.row(x, 1);
        x = Crowd.told("objector b grave 9 minutes 50 stays 5;objector a grave 1 minutes 5;");
        Crowd.due("as long as he stays is not more", x.soonest(), 55);
        Crowd.row(x, 0, 1);
    }

    @Says("of like ones the first row (by numbers as told)")
    static void promise20_ofLikeOnesTheFirstRow() {
        Objections x = Crowd.told("objector a grave 1 minutes 10;objector b grave 2 minutes 20;objector c grave 9 minutes 30;");
        Crowd.due("soonest", x.soonest(), 60);
        Crowd.row(x, 0, 1, 2);
        x.trade(0, 2);
        Crowd.due("soonest", x.soonest(), 60);
        Crowd.row(x, 0, 1, 2);
        x = Crowd.told(SEVEN);
        Crowd.due("soonest", x.soonest(), 7);
        Crowd.row(x, 0, 1, 2, 3, 4, 5, 6);
    }

    @Says("of like ones the first row (by numbers as told)")
    static void promise20_ofLikeOnesTheFirstEvenIfItIsLonger() {
        // c alone settles both by 30; a and then b settle as soon
        Objections x = Crowd.told("objector a grave 1 minutes 10;objector b grave 1 minutes 20;objector c grave 1 minutes 30;"
                + "settles c a;settles c b;settles b c;settles a c;");
        Crowd.due("soonest", x.soonest(), 30);
        Crowd.row(x, 0, 1);
    }

    @Says("of like ones the first row (by numbers as told)")
    static void promise20_whenEachCameMatters() {
        // a, b, d: c came at 5, waited 5 at 10 and must be HEARD; b, a, d: he came at 2, waited 8 at 10 and LEFT
        String[] lines = {"objector a grave 1 minutes 5;", "objector b grave 1 minutes 2;", "objector d grave 1 minutes 3;"};
        for (int late = 0; late < 4; late++) {
            StringBuilder text = new StringBuilder();
            for (int i = 0; i < 4; i++) {
                text.append(i == late ? "objector c grave 1 minutes 40 stays 6 late;" : lines[i < late ? i : i - 1]);
            }
            Objections x = Crowd.told(text + "brings a c;brings b c;");
            Crowd.due("soonest", x.soonest(), 10);
            Crowd.row(x, late <= 1 ? 2 : 1, late == 0 ? 1 : 0, late <= 2 ? 3 : 2);
        }
    }

    /** All orders in which so many can be told. */
    private static List<List<Integer>> orders(int many) {
        List<List<Integer>> all = new ArrayList<>();
        all.add(new ArrayList<>());
        for (int i = 0; i < many; i++) {
            List<List<Integer>> longer = new ArrayList<>();
            for (List<Integer> order : all) {
                for (int at = 0; at <= i; at++) {
                    List<Integer> one = new ArrayList<>(order);
                    one.add(at, i);
                    longer.add(one);
                }
            }
            all = longer;
        }
        return all;
    }

    /** Gives all their NUMBERS in this order. */
    private static void number(Objections x, List<Integer> order) {
        for (int number = 0; number < order.size(); number++) {
            for (int i = 0; i < order.size(); i++) {
                if (x.objector(i, 3) == number && i != order.get(number)) {
                    Crowd.due("trade", x.trade(order.get(number), i), number);
                    break;
                }
            }
        }
    }

    @Says("by hearing them in whichever order (always one who WAITS), the minute of DUSK that is least; of like ones the first row")
    static void promise20_noOrderIsSoonerNorAheadOfTheFirstRow() {
        String[] texts = {
            "objector a grave 1 minutes 7 stays 9;objector b grave 1 minutes 3 stays 20;objector c grave 1 minutes 5 stays 6;"
                + "objector d grave 1 minutes 4 stays 12;objector e grave 1 minutes 6 stays 15;settles c a;settles e b;settles b d;order 0;",
            "objector a grave 1 minutes 3 stays 7;objector b grave 1 minutes 3 stays 7;objector c grave 1 minutes 3 stays 8;"
                + "objector d grave 1 minutes 3 stays 8;objector e grave 1 minutes 3;settles a e;settles b c;settles d b;order 0;",
            "objector a grave 1 minutes 9;objector b grave 1 minutes 8;objector c grave 1 minutes 7 stays 3;objector d grave 1 minutes 2 stays 1;"
                + "objector e grave 1 minutes 1 stays 30;settles d a;settles e c;settles c b;settles a b;order 0;"};
        for (String text : texts) {
            int soonest = Integer.MAX_VALUE;
            String first = "";
            for (List<Integer> order : orders(5)) {
                Objections x = Crowd.told(text);
                number(x, order);
                int dusk = x.dusk();
                int[] row = new int[x.course()];
                for (int i = 0; i < row.length; i++) row[i] = x.lies(i);
                String rowText = Arrays.toString(row);
                if (dusk < soonest || dusk == soonest && rowText.compareTo(first) < 0) first = rowText;
                soonest = Math.min(soonest, dusk);
            }
            Objections x = Crowd.told(text);
            Crowd.due("soonest of " + text, x.soonest(), soonest);
            int[] row = new int[x.about(14)];
            for (int i = 0; i < row.length; i++) row[i] = x.lies(i);
            Crowd.due("the row of " + text + " is " + first, Arrays.toString(row).equals(first), true);
        }
    }

    // ---- promise 21

    @Says("FIRST what 0: he, 1: DUSK then; NONE if nobody WAITS, or for another what.")
    static void promise21_nobodyWaits() {
        Objections x = nobodyWaits();
        Crowd.due("first(0)", x.first(0), -1);
        Crowd.due("first(1)", x.first(1), -1);
        Crowd.due("without OBJECTORS", new Objections().first(1), -1);
    }

    @Says("NONE if nobody WAITS, or for another what. ## Promise 22")
    static void promise21_anotherWhat() {
        for (int what : OTHERS) {
            Crowd.due("first(" + what + ")", Crowd.told(THREE).first(what), -1);
        }
    }

    @Says("whom to hear next (whoever WAITS), all others by TURNS behind him, so that DUSK is soonest; of like ones the first.")
    static void promise21_ofLikeOnesTheFirst() {
        Objections x = Crowd.told("objector a grave 1 minutes 10;objector b grave 9 minutes 20;objector c grave 9 minutes 30;");
        Crowd.due("first(0)", x.first(0), 0);
        Crowd.due("first(1)", x.first(1), 60);
        x.trade(0, 1);
        Crowd.due("first(0), as told", x.first(0), 0);
        x.buy(0);
        Crowd.due("first(0)", x.first(0), 1);
        Crowd.due("first(1)", x.first(1), 50);
    }

    @Says("whom to hear next (whoever WAITS), all others by TURNS behind him")
    static void promise21_theOthersByTurnsBehindHim() {
        // by TURNS b, c, a: 16; behind a c LEFT: 12
        Objections x = Crowd.told("objector a grave 0 minutes 9;objector b grave 9 minutes 3;objector c grave 8 minutes 4 stays 8;");
        Crowd.due("first(0)", x.first(0), 0);
        Crowd.due("first(1)", x.first(1), 12);
        isStillAsTold(x, 3, 0);
        Objections y = Crowd.told("objector a grave 9 minutes 50;objector b grave 1 minutes 2 late;objector c grave 1 minutes 5;settles b a;");
        Crowd.due("b does not WAIT", y.first(0), 0);
        Crowd.due("b does not WAIT", y.first(1), 55);
    }

    // ---- promise 22

    private static void purchase(Objections x, int minute, int price, int who) {
        Crowd.due("purchase(" + minute + ", 0)", x.purchase(minute, 0), price);
        Crowd.due("purchase(" + minute + ", 1)", x.purchase(minute, 1), who);
    }

    @Says("so that DUSK is at that minute at the latest: the least price together")
    static void promise22_atTheLatest() {
        Objections x = Crowd.told(THREE);
        purchase(x, 60, 0, 0);
        purchase(x, 59, 3, 1);
        purchase(x, 50, 3, 1);
        purchase(x, 49, 3, 2);
        purchase(x, 40, 3, 2);
        purchase(x, 39, 6, 4);
        purchase(x, 29, 9, 5);
        purchase(x, 19, 9, 6);
        purchase(x, 9, 12, 7);
        isStillAsTold(x, 3, 0);
    }

    @Says("PURCHASE (a minute 0 .. 9,999)")
    static void promise22_theFirstAndTheLastMinute() {
        Objections x = Crowd.told(THREE);
        purchase(x, 0, 12, 7);
        purchase(x, 9999, 0, 0);
        purchase(new Objections(), 0, 0, 0);
    }

    @Says("NONE if all are not enough, or one can't be. ## Promise 23")
    static void promise22_oneCantBe() {
        Objections x = Crowd.told(THREE);
        for (int minute : new int[] {-1, 10000, Integer.MIN_VALUE, Integer.MAX_VALUE}) {
            purchase(x, minute, -1, -1);
        }
        for (int what : OTHERS) {
            Crowd.due("purchase(60, " + what + ")", x.purchase(60, what), -1);
            Crowd.due("purchase(0, " + what + ")", x.purchase(0, what), -1);
        }
    }

    @Says("NONE if all are not enough")
    static void promise22_allAreNotEnough() {
        Objections x = Crowd.told(THREE);
        x.pause(5);
        purchase(x, 4, -1, -1);
        purchase(x, 5, 12, 7);
        x = nobodyWaits();
        purchase(x, 8, -1, -1);
        purchase(x, 9, 0, 0);
    }

    @Says("PURCHASE (a minute 0 .. 9,999)")
    static void promise22_theMinuteNowMayBeAboveAll() {
        Objections x = Crowd.told(THREE);
        for (int i = 0; i < 167; i++) {
            x.pause(60);
        }
        Crowd.due("minute", x.about(1), 10020);
        purchase(x, 9999, -1, -1);
        purchase(x, 10020, -1, -1);
    }

    @Says("of like ones the fewest, then the least set as bits.")
    static void promise22_ofLikeOnesTheFewest() {
        Objections x = Crowd.told(THREE);
        // a and b: 6 together, as much as c alone, and DUSK by 30 as well
        purchase(x, 30, 6, 4);
        x = Crowd.told("objector a grave 1 minutes 5;objector b grave 1 minutes 5;objector c grave 1 minutes 5;");
        purchase(x, 15, 0, 0);
        purchase(x, 14, 0, 1);
        purchase(x, 9, 0, 3);
        purchase(x, 4, 0, 7);
        // d takes as long as a and b together
        x = Crowd.told("objector a grave 1 minutes 5;objector b grave 1 minutes 5;objector c grave 1 minutes 5;objector d grave 1 minutes 10;");
        purchase(x, 15, 0, 8);
    }

    @Says("then the least set as bits. BOAST")
    static void promise22_thenTheLeastSet() {
        Objections x = Crowd.told("objector a grave 1 minutes 5 price 2;objector b grave 1 minutes 6 price 1;objector c grave 1 minutes 7 price 1;");
        purchase(x, 17, 1, 2);
        purchase(x, 11, 1, 4);
        purchase(x, 10, 2, 6);
    }

    @Says("PURCHASE for a minute: those who WAIT to be BOUGHT at once")
    static void promise22_onlyWhoWaits() {
        Objections x = Crowd.ofEachSort();
        purchase(x, 3, 0, 0);
        purchase(x, 2, 5, 64);
        purchase(x, 1, -1, -1);
    }

    @Says("PURCHASE for a minute: those who WAIT to be BOUGHT at once, so that DUSK is at that minute at the latest")
    static void promise22_whoSettlesIsBetterNotBought() {
        Objections x = Crowd.told("objector a grave 9 minutes 5 price 1;objector b grave 8 minutes 50 price 9;objector c grave 7 minutes 4 price 2;settles a b;");
        purchase(x, 9, 0, 0);
        purchase(x, 8, 2, 4);
        purchase(x, 4, 10, 3);
        purchase(x, 3, 12, 7);
    }

    // ---- promise 23

    @Says("BOAST; NONE if he does not WAIT, no grave is enough, or there is none such.")
    static void promise23_whoDoesNotWait() {
        Objections x = Crowd.ofEachSort();
        for (int i = 0; i < 6; i++) {
            Crowd.due("boast(" + i + ")", x.boast(i), -1);
        }
        Crowd.due("alone", x.boast(6), 0);
    }

    @Says("no grave is enough, or there is none such.")
    static void promise23_noneSuch() {
        Objections x = Crowd.told(SEVEN);
        for (int none : NONE_SUCH) {
            Crowd.due("boast(" + none + ")", x.boast(none), -1);
        }
        Crowd.due("without OBJECTORS", new Objections().boast(0), -1);
    }

    @Says("BOAST of one who WAITS: the least grave (0 .. 99) by which it would be his TURN.")
    static void promise23_byNumberAsGraveIsEnough() {
        Objections x = Crowd.told("objector a grave 50 minutes 1;objector b grave 50 minutes 1;");
        Crowd.due("boast(0)", x.boast(0), 50);
        Crowd.due("boast(1)", x.boast(1), 51);
        x.trade(0, 1);
        Crowd.due("boast(0)", x.boast(0), 51);
        Crowd.due("boast(1)", x.boast(1), 50);
        Crowd.due("grave as told", x.objector(0, 1), 50);
    }

    @Says("the least grave (0 .. 99)")
    static void promise23_grave0And99() {
        Objections x = Crowd.told("objector a grave 99 minutes 1;objector b grave 99 minutes 1;");
        Crowd.due("99 is enough", x.boast(0), 99);
        Crowd.due("100 can't be", x.boast(1), -1);
        x = Crowd.told("objector a grave 98 minutes 1;objector b grave 0 minutes 1;");
        Crowd.due("99 is enough", x.boast(1), 99);
        Crowd.due("0 is enough", x.boast(0), 0);
    }

    @Says("by which it would be his TURN")
    static void promise23_byWhatComesOfOrder() {
        String two = "objector a grave 0 minutes 1;objector b grave 50 minutes 1;";
        Objections x = Crowd.told(two + "order (grave=33 or grave=44)+1;");
        Crowd.due("boast(0)", x.boast(0), 0);
        Crowd.due("boast(1)", x.boast(1), 33);
        x = Crowd.told(two + "order number;");
        Crowd.due("grave is nothing", x.boast(0), -1);
        Crowd.due("grave is nothing", x.boast(1), 0);
        x = Crowd.told(two + "order 0-grave;");
        Crowd.due("the less the better", x.boast(0), 0);
        Crowd.due("as little is not enough", x.boast(1), -1);
        x = Crowd.told(two + "order 2048*1024*1024-(grave=99);");
        Crowd.due("99 alone is the greatest there is", x.boast(1), 99);
    }

    // ---- promise 27

    @Says("GAIN; -1000000000 if he does not WAIT, or there is none such.")
    static void promise27_whoDoesNotWait() {
        Objections x = Crowd.ofEachSort();
        for (int i = 0; i < 6; i++) {
            Crowd.due("gain(" + i + ")", x.gain(i), NO_GAIN);
        }
        Crowd.due("who WAITS", x.gain(6), 1);
    }

    @Says("-1000000000 if he does not WAIT, or there is none such. ## Promise 28")
    static void promise27_noneSuch() {
        Objections x = Crowd.told(SEVEN);
        for (int none : NONE_SUCH) {
            Crowd.due("gain(" + none + ")", x.gain(none), NO_GAIN);
        }
        Crowd.due("without OBJECTORS", new Objections().gain(0), NO_GAIN);
    }

    @Says("by how many minutes DUSK would be sooner, if he were BOUGHT now (it may be below 0)")
    static void promise27_below0And0() {
        Objections x = Crowd.told("objector a grave 9 minutes 5;objector b grave 8 minutes 50;objector c grave 7 minutes 3;settles a b;");
        Crowd.due("below 0", x.gain(0), -45);
        Crowd.due("he would WITHDRAW", x.gain(1), 0);
        Crowd.due("above 0", x.gain(2), 3);
        x.pause(60);
        Crowd.due("at another minute", x.gain(0), -45);
        isStillAsTold(x, 3, 60);
    }

    // ---- promise 28

    @Says("CROWD, as bits (he himself, too); NONE if there is none such.")
    static void promise28_noneSuch() {
        Objections x = Crowd.told(SEVEN);
        for (int none : NONE_SUCH) {
            Crowd.due("crowd(" + none + ")", x.crowd(none), -1);
        }
        Crowd.due("without OBJECTORS", new Objections().crowd(0), -1);
    }

    @Says("CROWD of an OBJECTOR: all whom he brings, whom these bring, and so on.")
    static void promise28_himselfAndAllInARow() {
        Objections x = Crowd.told(SEVEN + "brings g f;brings f e;brings e d;brings d c;brings c b;brings b a;");
        for (int i = 0; i < 7; i++) {
            Crowd.due("crowd(" + i + ")", x.crowd(i), (2 << i) - 1);
        }
        x = Crowd.told(SEVEN + "brings a b;brings b c;brings c d;brings d e;brings e f;brings f g;");
        for (int i = 0; i < 7; i++) {
            Crowd.due("crowd(" + i + ")", x.crowd(i), 127 >> i << i);
        }
    }

    @Says("whom these bring, and so on.")
    static void promise28_roundAndRound() {
        Objections x = Crowd.told(SEVEN + "brings a c;brings c e;brings e a;settles a b;brings g a;");
        int[] crowds = {21, 2, 21, 8, 21, 32, 85};
        for (int i = 0; i < 7; i++) {
            Crowd.due("crowd(" + i + ")", x.crowd(i), crowds[i]);
        }
        x.hear();
        x.buy(0);
        Crowd.due("whatever they are", x.crowd(6), 85);
    }

    // ---- promise 31

    @Says("TARRY what 0: how many minutes (0 .. 60), 1: DUSK then; NONE for another what.")
    static void promise31_anotherWhat() {
        Objections x = Crowd.told(THREE);
        for (int what : OTHERS) {
            Crowd.due("tarry(" + what + ")", x.tarry(what), -1);
            Crowd.due("without OBJECTORS", new Objections().tarry(what), -1);
        }
    }

    @Says("how many minutes must be WAITED now at once, so that DUSK is soonest; of like ones the fewest.")
    static void promise31_noneIfNoneMakesItSooner() {
        Objections x = Crowd.told(THREE);
        Crowd.due("tarry(0)", x.tarry(0), 0);
        Crowd.due("tarry(1)", x.tarry(1), 60);
        x = nobodyWaits();
        Crowd.due("nobody WAITS", x.tarry(0), 0);
        Crowd.due("nobody WAITS", x.tarry(1), 9);
        // whether he is HEARD till 60 or LEFT at 60
        x = Crowd.told("objector a grave 1 minutes 60 stays 59;");
        Crowd.due("as soon", x.tarry(0), 0);
        Crowd.due("as soon", x.tarry(1), 60);
    }

    @Says("so that DUSK is soonest; of like ones the fewest.")
    static void promise31_ofLikeOnesTheFewest() {
        // from 4 on a LEFT
        Objections x = Crowd.told("objector a grave 9 minutes 50 stays 3;objector b grave 1 minutes 2;");
        Crowd.due("tarry(0)", x.tarry(0), 4);
        Crowd.due("tarry(1)", x.tarry(1), 6);
        isStillAsTold(x, 2, 0);
        x = Crowd.told("objector a grave 9 minutes 10 stays 3;objector b grave 1 minutes 10 stays 8;objector c grave 0 minutes 1;");
        // 0: a till 10, b LEFT, c: 11; 4: b till 14, c: 15; 9: c: 10
        Crowd.due("tarry(0)", x.tarry(0), 9);
        Crowd.due("tarry(1)", x.tarry(1), 10);
    }

    @Says("TARRY what 0: how many minutes (0 .. 60)")
    static void promise31_sixtyAtMost() {
        String text = "objector a grave 9 minutes 60;objector b grave 9 minutes 60;objector c grave 9 minutes 9;settles c a;settles c b;"
                + "order (heard=0 and minute=";
        Objections x = Crowd.told(text + "60)*number;");
        Crowd.due("60", x.tarry(0), 60);
        Crowd.due("60", x.tarry(1), 69);
        x = Crowd.told(text + "61)*number;");
        Crowd.due("61 is too many", x.tarry(0), 0);
        Crowd.due("61 is too many", x.tarry(1), 129);
        x = Crowd.told(text + "1)*number;");
        Crowd.due("1", x.tarry(0), 1);
        Crowd.due("1", x.tarry(1), 10);
    }

    // ---- promise 32

    private static void swap(Objections x, int one, int other, int dusk) {
        Crowd.due("swap(0)", x.swap(0), one);
        Crowd.due("swap(1)", x.swap(1), other);
        Crowd.due("swap(2)", x.swap(2), dusk);
    }

    @Says("NONE if none is sooner, or for another what. ## Promise 33")
    static void promise32_noneIsSooner() {
        swap(Crowd.told(THREE), -1, -1, -1);
        swap(nobodyWaits(), -1, -1, -1);
        swap(new Objections(), -1, -1, -1);
        swap(Crowd.told("objector a grave 1 minutes 50 stays 3;"), -1, -1, -1);
    }

    @Says("NONE if none is sooner, or for another what. ## Promise 33")
    static void promise32_anotherWhat() {
        Objections x = Crowd.told(THREE + "settles c a;settles c b;");
        swap(x, 0, 2, 30);
        for (int what : new int[] {-1, 3, Integer.MIN_VALUE, Integer.MAX_VALUE}) {
            Crowd.due("swap(" + what + ")", x.swap(what), -1);
        }
        isStillAsTold(x, 3, 0);
    }

    @Says("if it is sooner than it is")
    static void promise32_asSoonIsNotSooner() {
        Objections x = Crowd.told(THREE + "settles c a;settles c b;");
        x.trade(0, 2);
        swap(x, -1, -1, -1);
    }

    @Says("of like ones the first (the lesser one, then the other one)")
    static void promise32_theLesserOneFirst() {
        // b settles both, once his NUMBER is 0 or 2: by exchange with a, or with c
        Objections x = Crowd.told("objector a grave 1 minutes 1;objector b grave 1 minutes 5;objector c grave 1 minutes 1;settles b a;settles b c;"
                + "order (number=0 or number=2)*minutes;");
        Crowd.due("dusk", x.dusk(), 7);
        swap(x, 0, 1, 5);
        x.buy(0);
        // a, with NUMBER 0, is there no more: only NUMBER 2 counts
        swap(x, 1, 2, 5);
    }

    @Says("(the lesser one, then the other one)")
    static void promise32_thenTheOtherOne() {
        // c or d settles all others, if he is ahead of a
        Objections x = Crowd.told("objector a grave 1 minutes 10;objector b grave 1 minutes 10;objector c grave 1 minutes 1;objector d grave 1 minutes 1;"
                + "settles c a;settles c b;settles c d;settles d a;settles d b;settles d c;");
        Crowd.due("dusk", x.dusk(), 21);
        swap(x, 0, 2, 1);
        x.buy(2);
        swap(x, 0, 3, 1);
    }

    @Says("TRADE: the two who WAIT by whose exchange of NUMBERS DUSK is soonest")
    static void promise32_onlyTwoWhoWait() {
        // with NUMBER 1 c would be ahead of a; but b, who has it, is AWAY
        String text = "objector a grave 9 minutes 50;objector b grave 1 minutes 2%;objector c grave 5 minutes 9;settles c a;order (number=1)*999+grave;";
        Objections x = Crowd.told(text.replace("%", " late"));
        Crowd.due("dusk", x.dusk(), 59);
        swap(x, -1, -1, -1);
        x = Crowd.told(text.replace("%", ""));
        Crowd.due("dusk", x.dusk(), 61);
        swap(x, 1, 2, 11);
    }

    // ---- promise 33

    @Says("How many will be HEARD from now on, begun at minute n (0 .. 9,999) at the latest")
    static void promise33_atTheLatest() {
        Objections x = Crowd.told(THREE);
        int[][] rows = {{0, 1}, {9, 1}, {10, 2}, {29, 2}, {30, 3}, {31, 3}, {9999, 3}};
        for (int[] row : rows) {
            Crowd.due("by(" + row[0] + ")", x.by(row[0]), row[1]);
        }
    }

    @Says("NONE for another n. ## Promise 34")
    static void promise33_anotherMinute() {
        Objections x = Crowd.told(THREE);
        for (int n : new int[] {-1, 10000, Integer.MIN_VALUE, Integer.MAX_VALUE}) {
            Crowd.due("by(" + n + ")", x.by(n), -1);
            Crowd.due("without OBJECTORS", new Objections().by(n), -1);
        }
    }

    @Says("How many will be HEARD from now on")
    static void promise33_nobodyOrNobodyYet() {
        Crowd.due("without OBJECTORS", new Objections().by(0), 0);
        Crowd.due("nobody WAITS", nobodyWaits().by(9999), 0);
        Objections x = Crowd.told(THREE);
        x.hear();
        Crowd.due("who was HEARD does not count", x.by(9), 0);
        Crowd.due("at minute 10", x.by(10), 1);
    }

    // ---- promise 34

    @Says("Whoever is HEARD with one ahead of him who is less grave (by grave as told)")
    static void promise34_asGraveIsNotLess() {
        Crowd.due("three as grave", Crowd.told(THREE).upset(), 0);
        Crowd.due("each less grave than the one ahead", Crowd.told(SEVEN).upset(), 0);
        Crowd.due("without OBJECTORS", new Objections().upset(), 0);
        Crowd.due("nobody WAITS", nobodyWaits().upset(), 0);
        Crowd.due("one alone", Crowd.ofEachSort().upset(), 0);
    }

    @Says("(by grave as told): how many such twos, one directly behind the other.")
    static void promise34_oneDirectlyBehindTheOther() {
        Crowd.due("each of seven", Crowd.told(SEVEN + "order 0-grave;").upset(), 6);
        Crowd.due("every other", Crowd.told("objector a grave 5 minutes 1;objector b grave 7 minutes 1;objector c grave 7 minutes 1;"
                + "objector d grave 6 minutes 1;objector e grave 9 minutes 1;objector f grave 1 minutes 1;order 0;").upset(), 2);
        Crowd.due("0 and 99", Crowd.told("objector a grave 0 minutes 1;objector b grave 99 minutes 1;order 0;").upset(), 1);
    }

    // ---- promise 35

    @Says("The i-th number of what lies there; NONE if there is none such.")
    static void promise35_noneSuch() {
        Objections x = Crowd.told(SEVEN);
        Crowd.due("nothing lies there", x.lies(0), -1);
        x.queue();
        for (int i = 0; i < 7; i++) {
            Crowd.due("lies(" + i + ")", x.lies(i), 6 - i);
        }
        for (int i : NONE_SUCH) {
            Crowd.due("lies(" + i + ")", x.lies(i), -1);
        }
        x.buy(3);
        x.queue();
        Crowd.due("the last one", x.lies(5), 0);
        Crowd.due("behind the last one", x.lies(6), -1);
        Crowd.due("without OBJECTORS", new Objections().lies(0), -1);
    }

    @Says("The i-th number of what lies there")
    static void promise35_itLiesThereTillOtherLies() {
        Objections x = Crowd.told(SETTLER);
        x.soonest();
        Crowd.row(x, 1);
        x.hear();
        x.undo();
        x.redo();
        x.undo();
        x.pause(1);
        x.trade(0, 1);
        x.image(0);
        x.back(0);
        x.dusk();
        x.first(0);
        x.swap(0);
        x.by(9);
        Crowd.row(x, 1);
        Crowd.due("course", x.course(), 2);
        Crowd.row(x, 0, 1);
    }
}
