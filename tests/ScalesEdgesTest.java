import java.io.IOException;

/** Promises 24 to 26, 29, 30 and 44: each sentence that names a boundary case of WEIGHT, what bars, ODDS, PERIL and about. */
public final class ScalesEdgesTest {
    private static final String FOUR = "objector a grave 10 minutes 1;objector b grave 20 minutes 1;objector c grave 30 minutes 1;"
            + "objector d grave 40 minutes 1 late;joined a b 5;joined c a 7;joined d b 9;";
    private static final String SIX = "objector a grave 1 minutes 1;objector b grave 3 minutes 1;objector c grave 7 minutes 1;objector d grave 9 minutes 1;"
            + "objector e grave 11 minutes 1;objector f grave 13 minutes 1;";
    private static final int[] OTHERS = {-1, 2, Integer.MIN_VALUE, Integer.MAX_VALUE};
    // of the object of each sort only 6 WAITS; and there is no OBJECTOR 7
    private static final int[] NO_SETS = {1, 2, 4, 8, 16, 32, 128, 256, 64 + 1, 64 + 128, 65536, -1, -64, Integer.MIN_VALUE, Integer.MAX_VALUE};

    public static void main(String[] args) throws IOException {
        Sentences.run(ScalesEdgesTest.class);
    }

    private static void threat(Objections x, int many, int who) {
        Crowd.due("threat(0)", x.threat(0), many);
        Crowd.due("threat(1)", x.threat(1), who);
    }

    private static void odds(Objections x, int set, int upper, int lower) {
        Crowd.due("odds(" + set + ", 0)", x.odds(set, 0), upper);
        Crowd.due("odds(" + set + ", 1)", x.odds(set, 1), lower);
    }

    private static void peril(Objections x, int set, int upper, int lower) {
        Crowd.due("peril(" + set + ", 0)", x.peril(set, 0), upper);
        Crowd.due("peril(" + set + ", 1)", x.peril(set, 1), lower);
    }

    // ---- promise 24

    @Says("WEIGHT: grave of all who STAND, and joined of two who both STAND, together.")
    static void promise24_nobodyStands() {
        Crowd.due("without OBJECTORS", new Objections().weight(), 0);
        Objections x = Crowd.told(FOUR);
        Crowd.due("nobody was HEARD", x.weight(), 0);
        x.hear();
        Crowd.due("he is ANSWERED", x.weight(), 0);
    }

    @Says("and joined of two who both STAND, together.")
    static void promise24_joinedCountsOnlyIfBothStand() {
        Objections x = Crowd.told(FOUR + "answer (grave=20)*100;");
        x.hear();
        Crowd.due("c", x.weight(), 30);
        x.hear();
        Crowd.due("b is ANSWERED", x.weight(), 30);
        x.hear();
        Crowd.due("c and a, joined", x.weight(), 30 + 10 + 7);
    }

    @Says("WEIGHT: grave of all who STAND")
    static void promise24_onlyWhoStandsCounts() {
        Objections x = Crowd.ofEachSort();
        Crowd.due("b alone", x.weight(), 8);
        x.undo();
        x.undo();
        Crowd.due("not yet", x.weight(), 0);
    }

    @Says("WEIGHT: grave of all who STAND, and joined of two who both STAND, together.")
    static void promise24_allSevenWithAllJoined() {
        StringBuilder text = new StringBuilder("answer 0;bar 999;");
        for (char c = 'a'; c <= 'g'; c++) text.append("objector ").append(c).append(" grave 99 minutes 1;");
        for (char c = 'a'; c < 'g'; c++) text.append("joined ").append(c).append(' ').append((char) (c + 1)).append(" 99;");
        Objections x = Crowd.told(text.toString());
        for (int i = 0; i < 7; i++) {
            Crowd.due("BARRED", x.about(5), 99 * (2 * i - 1) >= 999 ? 1 : 0);
            Crowd.due("hear", x.hear(), i);
            Crowd.due("weight", x.weight(), 99 * (2 * i + 1));
        }
    }

    // ---- promise 25

    @Says("THREAT what 0: how many (0: it is BARRED), 1: who, as bits")
    static void promise25_itIsBarred() {
        Objections x = Crowd.told(FOUR + "bar 30;answer 0;");
        threat(x, 1, 4);
        x.hear();
        threat(x, 0, 0);
    }

    @Says("It is BARRED, if that is as much as bar at least.")
    static void promise25_asMuchAsBar() {
        threat(Crowd.told(FOUR + "bar 29;"), 1, 4);
        threat(Crowd.told(FOUR + "bar 30;"), 1, 4);
        threat(Crowd.told(FOUR + "bar 31;"), 2, 3);
        threat(Crowd.told(FOUR + "bar 72;"), 3, 7);
    }

    @Says("NONE if all are not enough, or for another what. ## Promise 26")
    static void promise25_allAreNotEnough() {
        threat(Crowd.told(FOUR + "bar 73;"), -1, -1);
        threat(new Objections(), -1, -1);
        Objections x = Crowd.told(FOUR + "bar 30;");
        x.buy(2);
        threat(x, 2, 3);
        x.buy(0);
        threat(x, -1, -1);
    }

    @Says("NONE if all are not enough, or for another what. ## Promise 26")
    static void promise25_anotherWhat() {
        for (int what : OTHERS) {
            Crowd.due("threat(" + what + ")", Crowd.told(FOUR + "bar 1;").threat(what), -1);
        }
    }

    @Says("THREAT: the fewest of those who WAIT who would bar it, if they STOOD now, too; of like ones the least set as bits.")
    static void promise25_theFewestThenTheLeastSet() {
        String text = "objector a grave 5 minutes 1;objector b grave 5 minutes 1;objector c grave 10 minutes 1;objector d grave 10 minutes 1;";
        threat(Crowd.told(text + "bar 10;"), 1, 4);
        threat(Crowd.told(text + "bar 11;"), 2, 5);
        threat(Crowd.told(text + "bar 16;"), 2, 12);
        threat(Crowd.told(text + "bar 1;"), 1, 1);
        threat(Crowd.told(text + "joined a b 5;bar 15;"), 2, 3);
    }

    @Says("who would bar it, if they STOOD now, too")
    static void promise25_withThoseWhoStand() {
        Objections x = Crowd.told(FOUR + "bar 47;answer 0;");
        threat(x, 2, 5);
        x.hear();
        threat(x, 1, 1);
        x = Crowd.ofEachSort();
        threat(x, -1, -1);
    }

    // ---- promise 26

    @Says("How many sets of those who WAIT would bar it, if they STOOD now, too (none of them, too).")
    static void promise26_noneOfThemToo() {
        Objections x = Crowd.told(FOUR + "bar 30;answer 0;");
        Crowd.due("c and any, a and b", x.bars(), 5);
        x.hear();
        Crowd.due("any of a and b, none, too", x.bars(), 4);
        x.hear();
        x.hear();
        Crowd.due("nobody WAITS: none of them", x.bars(), 1);
    }

    @Says("How many sets of those who WAIT would bar it")
    static void promise26_noSetAndAllSets() {
        Crowd.due("all are not enough", Crowd.told(FOUR + "bar 73;").bars(), 0);
        Crowd.due("all three are enough", Crowd.told(FOUR + "bar 72;").bars(), 1);
        Crowd.due("each but none", Crowd.told(SIX + "objector g grave 1 minutes 1;bar 1;").bars(), 127);
        Crowd.due("without OBJECTORS", new Objections().bars(), 0);
        Objections x = Crowd.told(SIX + "objector g grave 99 minutes 1;answer 0;bar 1;");
        x.hear();
        Crowd.due("each of six", x.bars(), 64);
        Crowd.due("who does not WAIT is in none", Crowd.ofEachSort().bars(), 0);
    }

    // ---- promise 29

    @Says("ODDS (as bits, 4 at most) the upper part (0), the lower part (1), in lowest terms (0 of 1)")
    static void promise29_noneOfThem() {
        odds(Crowd.told(FOUR + "answer 0;"), 0, 1, 1);
        odds(new Objections(), 0, 1, 1);
    }

    @Says("ODDS (as bits, 4 at most)")
    static void promise29_fourAtMost() {
        Objections x = Crowd.told(SIX + "answer grave;");
        odds(x, 15, 189, 100000000);
        odds(x, 60, 7 * 9 * 11 * 13, 100000000);
        odds(x, 31, -1, -1);
        odds(x, 61, -1, -1);
        odds(x, 63, -1, -1);
    }

    @Says("NONE if one does not WAIT, or can't be. ## Promise 30")
    static void promise29_oneDoesNotWaitOrCantBe() {
        Objections x = Crowd.ofEachSort();
        odds(x, 64, 0, 1);
        for (int set : NO_SETS) {
            odds(x, set, -1, -1);
        }
        odds(new Objections(), 1, -1, -1);
        odds(Crowd.told(SIX), 64, -1, -1);
    }

    @Says("the upper part (0), the lower part (1), in lowest terms (0 of 1); NONE if one does not WAIT, or can't be. ## Promise 30")
    static void promise29_anotherPart() {
        for (int part : OTHERS) {
            Crowd.due("odds(1, " + part + ")", Crowd.told(FOUR).odds(1, part), -1);
            Crowd.due("odds(0, " + part + ")", new Objections().odds(0, part), -1);
        }
    }

    @Says("each by what comes of answer now, 0 at least, 100 at most.")
    static void promise29_atLeast0AtMost100() {
        String two = "objector a grave 10 minutes 1;objector b grave 50 minutes 1;";
        Objections x = Crowd.told(two + "answer (grave=10)*200+50;");
        odds(x, 1, 1, 1);
        odds(x, 2, 1, 2);
        odds(x, 3, 1, 2);
        x = Crowd.told(two + "answer 50-(grave=10)*51;");
        odds(x, 1, 0, 1);
        odds(x, 3, 0, 1);
        x = Crowd.told(two + "answer (grave=10)*101+(grave=50);");
        odds(x, 1, 1, 1);
        odds(x, 3, 1, 100);
        x = Crowd.told(two + "answer 99+(grave=10);");
        odds(x, 1, 1, 1);
        odds(x, 2, 99, 100);
        odds(Crowd.told(two + "answer 2048*1024*1024;"), 3, 0, 1);
        odds(Crowd.told(two + "answer 2048*1024*1024-1;"), 3, 1, 1);
        odds(Crowd.told(two), 3, 1, 1);
    }

    @Says("in lowest terms (0 of 1); NONE if one does not WAIT, or can't be. ## Promise 30")
    static void promise29_inLowestTerms() {
        Objections x = Crowd.told(FOUR + "answer 100-grave*2;");
        odds(x, 1, 4, 5);
        odds(x, 2, 3, 5);
        odds(x, 3, 12, 25);
        odds(x, 7, 24, 125);
        odds(Crowd.told(SIX + "answer 50;"), 15, 1, 16);
        odds(Crowd.told(SIX + "answer 1;"), 15, 1, 100000000);
        odds(Crowd.told(SIX + "answer 0;"), 15, 0, 1);
        odds(Crowd.told(SIX + "answer 99;"), 15, 99 * 99 * 99 * 99, 100000000);
    }

    @Says("each by what comes of answer now")
    static void promise29_byWhatIsNow() {
        Objections x = Crowd.told(FOUR + "answer waited*10+heard;");
        odds(x, 1, 0, 1);
        x.pause(3);
        odds(x, 1, 3, 10);
        x.hear();
        odds(x, 1, 41, 100);
        odds(x, 3, 1681, 10000);
    }

    // ---- promise 30

    @Says("PERIL (as bits, 4 at most) the upper part (0), the lower part (1), in lowest terms (0 of 1)")
    static void promise30_noneOfThem() {
        Objections x = Crowd.told(FOUR + "answer 0;bar 30;");
        peril(x, 0, 0, 1);
        x.hear();
        peril(x, 0, 1, 1);
        peril(new Objections(), 0, 0, 1);
    }

    @Says("PERIL (as bits, 4 at most)")
    static void promise30_fourAtMost() {
        Objections x = Crowd.told(SIX + "answer grave;bar 20;");
        peril(x, 15, 99 * 97 * 93 * 91, 100000000);
        peril(x, 31, -1, -1);
        peril(x, 61, -1, -1);
        peril(x, 63, -1, -1);
        peril(Crowd.told(SIX + "answer 0;bar 20;"), 15, 1, 1);
        peril(Crowd.told(SIX + "answer 100;bar 1;"), 15, 0, 1);
    }

    @Says("PERIL (as bits, 4 at most) the upper part (0), the lower part (1), in lowest terms (0 of 1); NONE if one does not WAIT, or can't be.")
    static void promise30_oneDoesNotWaitOrCantBe() {
        Objections x = Crowd.ofEachSort();
        peril(x, 64, 0, 1);
        for (int set : NO_SETS) {
            peril(x, set, -1, -1);
        }
        peril(new Objections(), 1, -1, -1);
        peril(Crowd.told(SIX), 64, -1, -1);
    }

    @Says("PERIL (as bits, 4 at most) the upper part (0), the lower part (1)")
    static void promise30_anotherPart() {
        for (int part : OTHERS) {
            Crowd.due("peril(1, " + part + ")", Crowd.told(FOUR).peril(1, part), -1);
            Crowd.due("peril(0, " + part + ")", new Objections().peril(0, part), -1);
        }
    }

    @Says("that it is BARRED by those of them who are not ANSWERED and those who STAND, each likewise.")
    static void promise30_atLeast0AtMost100() {
        String two = "objector a grave 10 minutes 1;objector b grave 50 minutes 1;bar 10;";
        peril(Crowd.told(two + "answer 0-50;"), 3, 1, 1);
        peril(Crowd.told(two + "answer 150;"), 3, 0, 1);
        peril(Crowd.told(two + "answer 150-(grave=10)*200;"), 1, 1, 1);
        peril(Crowd.told(two + "answer 150-(grave=10)*100;"), 3, 1, 2);
        peril(Crowd.told(two), 3, 0, 1);
    }

    @Says("that it is BARRED by those of them who are not ANSWERED and those who STAND")
    static void promise30_asMuchAsBarWithJoinedAndThoseWhoStand() {
        Objections x = Crowd.told(FOUR + "answer 100-grave*2;bar 35;");
        peril(x, 1, 0, 1);
        peril(x, 3, 2, 25);
        // of 125: a and b 4, a and c 9, b and c 24, all 6
        peril(x, 7, 43, 125);
        x = Crowd.told(FOUR + "answer (heard>0)*50;bar 47;");
        x.hear();
        peril(x, 0, 0, 1);
        peril(x, 1, 1, 2);
        peril(x, 2, 1, 2);
        peril(x, 3, 3, 4);
        peril(Crowd.told(FOUR + "answer 50;bar 36;"), 3, 0, 1);
    }

    @Says("that it is BARRED by those of them who are not ANSWERED and those who STAND, each likewise.")
    static void promise30_byWhatIsNow() {
        Objections x = Crowd.told(FOUR + "answer waited*10+heard;bar 10;");
        peril(x, 1, 1, 1);
        x.pause(3);
        peril(x, 1, 7, 10);
        x.hear();
        Crowd.due("he STANDS", x.about(7), 4);
        peril(x, 1, 1, 1);
        x.undo();
        x.buy(2);
        x.pause(7);
        peril(x, 1, 0, 1);
    }

    // ---- promise 44

    @Says("NONE for another what. ## Not promised")
    static void promise44_anotherWhat() {
        for (int what : new int[] {-1, 15, Integer.MIN_VALUE, Integer.MAX_VALUE}) {
            Crowd.due("about(" + what + ")", Crowd.told(FOUR).about(what), -1);
            Crowd.due("without OBJECTORS", new Objections().about(what), -1);
        }
    }

    @Says("What 0: OBJECTORS, 1: the minute, 2: the SEED, 3: what is spent, 4: bar")
    static void promise44_eachWhat() {
        Objections x = Crowd.told(SIX + "objector g grave 6 minutes 60 price 9;bar 13;draw 6;answer 0;order grave+0*(minute);");
        x.later(9);
        x.hear();
        x.hear();
        x.buy(6);
        x.pause(60);
        x.undo();
        x.seen(1, 2, true);
        x.seen(2, 2, false);
        x.seen(3, 2, false);
        x.untell(0);
        x.queue();
        Crowd.feed(x, "bar 5");
        // 6: 893, and then 122,341 and 71 more: 412
        Crowd.about(x, 7, 2, 412, 9, 13, 1, 15, 48, 3, 1, 3, 9, 5, 5, 4);
    }

    @Says("5: 1 if it is BARRED, else 0")
    static void promise44_barredByAsMuchAsBar() {
        for (int bar = 29; bar <= 31; bar++) {
            Objections x = Crowd.told(FOUR + "answer 0;bar " + bar + ";");
            Crowd.due("nobody STANDS", x.about(5), 0);
            x.hear();
            Crowd.due("30, bar " + bar, x.about(5), bar <= 30 ? 1 : 0);
        }
        Objections x = Crowd.told("objector a grave 0 minutes 1;answer 0;bar 1;");
        x.hear();
        Crowd.due("0, bar 1", x.about(5), 0);
        Crowd.due("without OBJECTORS", new Objections().about(5), 0);
    }

    @Says("6: who WAITS, 7: who STANDS, both as bits")
    static void promise44_onlyWhoWaitsAndStands() {
        Objections x = Crowd.ofEachSort();
        Crowd.due("about(6)", x.about(6), 64);
        Crowd.due("about(7)", x.about(7), 2);
        Crowd.due("all WAIT", Crowd.told(SIX).about(6), 63);
    }

    @Says("8: ACTS that can be undone, 9: redone")
    static void promise44_fortyAtMost() {
        Objections x = Crowd.told(FOUR);
        for (int i = 1; i <= 42; i++) {
            x.pause(1);
            Crowd.due("about(8)", x.about(8), Math.min(i, 40));
        }
        for (int i = 1; i <= 42; i++) {
            x.undo();
            Crowd.due("about(8)", x.about(8), Math.max(0, 40 - i));
            Crowd.due("about(9)", x.about(9), Math.min(i, 40));
        }
    }

    @Says("12: bytes on the TAPE, 13: units, 14: how many lie there.")
    static void promise44_bytesUnitsAndWhatLies() {
        Objections x = Crowd.told(SIX + "order (1+(2));answer grave;");
        Crowd.due("units, each ( e ), too", x.about(13), 5);
        Crowd.due("nothing lies there", x.about(14), 0);
        x.queue();
        Crowd.due("six lie there", x.about(14), 6);
        for (int i = 1; i <= 80; i++) {
            x.feed(0, 0, 0, 0, 0);
            Crowd.due("about(12)", x.about(12), i * 20);
        }
        Crowd.due("a FAULT", x.wedding(), -1);
        Crowd.due("units stay", x.about(13), 5);
        Crowd.due("bytes are gone", x.about(12), 0);
    }
}
