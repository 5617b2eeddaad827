import java.io.IOException;

/** Promises 1 to 5: each sentence that names a boundary case of the TAPE, the text, its TOKENS and limits, and FAULTS. */
public final class TextEdgesTest {
    private static final String A = "objector a grave 1 minutes 1;";
    private static final String AB = A + "objector b grave 2 minutes 2;";
    private static final String SEVEN = AB + "objector c grave 1 minutes 1;objector d grave 1 minutes 1;objector e grave 1 minutes 1;"
            + "objector f grave 1 minutes 1;objector g grave 1 minutes 1;";
    private static final String TWELVE = "settles a b;settles a c;settles a d;settles a e;settles a f;settles a g;settles b a;"
            + "settles b c;settles b d;settles b e;settles b f;settles b g;";
    private static final String SIX = "brings a b;brings a c;brings a d;brings b a;brings b c;brings c b;";
    private static final String JOINED = "joined a b 1;joined a c 1;joined a d 1;joined b c 1;joined c d 1;joined d b 1;";
    private static final String[] OWN = {"objector", "grave", "minutes", "stays", "price", "late", "settles", "brings", "joined", "order",
        "answer", "bar", "draw", "or", "and", "not", "waited", "number", "heard", "minute"};

    public static void main(String[] args) throws IOException {
        Sentences.run(TextEdgesTest.class);
    }

    /** So many 1, with + between. */
    private static String ones(int many) {
        return "1" + "+1".repeat(many - 1);
    }

    // ---- promise 1

    @Says("`NONE = -1`: There is none.")
    static void promise01_noneIsMinusOne() {
        Crowd.due("NONE", Objections.NONE, -1);
    }

    @Says("An empty WEDDING.")
    static void promise01_aNewObjectIsAnEmptyWedding() {
        Objections x = new Objections();
        Crowd.about(x, 0, 0, 0, 0, 100, 0, 0, 0, 0, 0, 0, 0, 0, 0, 0);
        Crowd.due("no OBJECTOR", x.objector(0, 0), -2);
        Crowd.due("nobody's TURN", x.next(), -1);
        Crowd.due("weight", x.weight(), 0);
    }

    @Says("An object is used for at most 512 calls after it has been made")
    static void promise01_the512thCallAnswersAsTheFirstOnes() {
        Objections x = new Objections();
        for (int i = 1; i < 512; i++) {
            Crowd.due("pause", x.pause(60), 0);
        }
        Crowd.due("the 512th call", x.about(1), 511 * 60);
    }

    // ---- promise 2

    @Says("Twenty bytes come behind those on the TAPE")
    static void promise02_bytesComeBehindThose() {
        Objections x = new Objections();
        Crowd.due("feed", x.feed(0x62617220, 0, 0, 0, 0), 20);
        Crowd.due("end", x.end(4), 4);
        Crowd.due("feed", x.feed(0x373b0000, 0, 0, 0, 0), 24);
        Crowd.due("end", x.end(6), 6);
        Crowd.due("wedding", x.wedding(), 0);
        Crowd.due("bar 7;", x.about(4), 7);
    }

    @Says("of each number the highest first")
    static void promise02_theHighestByteOfEachNumberComesFirst() {
        Objections x = new Objections();
        // "order grave; bar 12;"
        Crowd.due("feed", x.feed(0x6f726465, 0x72206772, 0x6176653b, 0x20626172, 0x2031323b), 20);
        Crowd.due("wedding", x.wedding(), 0);
        Crowd.due("bar", x.about(4), 12);
        Crowd.due("units", x.about(13), 1);
    }

    @Says("of each number the highest first")
    static void promise02_theHighestBitOfANumberIsOneOfItsFirstByte() {
        Objections x = new Objections();
        Crowd.due("feed", x.feed(0x0a0a0a20, 0x20ff2020, -1, Integer.MIN_VALUE, 0x2020200a), 20);
        Crowd.due("wedding", x.wedding(), -1);
        Crowd.due("byte 255 is no TOKEN", x.fault(0) * 100 + x.fault(1), 105);
        x.feed(Integer.MIN_VALUE, 0, 0, 0, 0);
        Crowd.due("wedding", x.wedding(), -1);
        Crowd.due("byte 128 is no TOKEN", x.fault(0) * 100 + x.fault(1), 100);
    }

    private static Objections full() {
        Objections x = new Objections();
        for (int i = 1; i < 80; i++) {
            Crowd.due("feed", x.feed(0x20202020, 0x20202020, 0x0a0a0a0a, 0x20202020, 0x20202020), i * 20);
        }
        // "bar 765;" stands at the very end
        Crowd.due("feed to the brim", x.feed(0x20202020, 0x20202020, 0x20202020, 0x62617220, 0x3736353b), 1600);
        return x;
    }

    @Says("how many there are; NONE, and nothing comes, if there would be more than 1,600")
    static void promise02_sixteenHundredBytesAreNotTooMany() {
        Crowd.due("about(12)", full().about(12), 1600);
    }

    @Says("NONE, and nothing comes, if there would be more than 1,600")
    static void promise02_aboveSixteenHundredNothingComes() {
        Objections x = full();
        Crowd.due("feed", x.feed(0x24242424, 0x24242424, 0x24242424, 0x24242424, 0x24242424), -1);
        Crowd.due("about(12)", x.about(12), 1600);
        Crowd.due("no byte came", x.end(1601), -1);
        Crowd.due("wedding", x.wedding(), 0);
        Crowd.due("bar", x.about(4), 765);
    }

    @Says("NONE, and nothing comes, if there would be more than 1,600")
    static void promise02_oneByteAboveIsTooMany() {
        Objections x = full();
        x.end(1581);
        Crowd.due("feed, 1,601 in all", x.feed(0, 0, 0, 0, 0), -1);
        Crowd.due("about(12)", x.about(12), 1581);
        Crowd.due("no byte came", x.end(1582), -1);
        x.end(1580);
        Crowd.due("feed, 1,600 in all", x.feed(0, 0, 0, 0, 0), 1600);
    }

    // ---- promise 3

    @Says("The TAPE has its first n bytes: n")
    static void promise03_whatIsBehindTheFirstBytesIsGone() {
        Objections x = new Objections();
        Crowd.feed(x, "bar 7;$bar 8;");
        Crowd.due("end(6)", x.end(6), 6);
        Crowd.due("about(12)", x.about(12), 6);
        Crowd.due("end(7)", x.end(7), -1);
        Crowd.due("wedding", x.wedding(), 0);
        Crowd.due("bar", x.about(4), 7);
    }

    @Says("The TAPE has its first n bytes: n")
    static void promise03_noBytesAreBytesToo() {
        Objections x = new Objections();
        Crowd.due("end(0) of an empty TAPE", x.end(0), 0);
        Crowd.feed(x, "$");
        Crowd.due("end(0)", x.end(0), 0);
        Crowd.due("about(12)", x.about(12), 0);
        Crowd.due("wedding", x.wedding(), 0);
    }

    @Says("The TAPE has its first n bytes: n")
    static void promise03_allBytesAreItsFirstToo() {
        Objections x = new Objections();
        x.feed(0x62617220, 0x373b2020, 0x20202020, 0x20202020, 0x20202024);
        Crowd.due("end(20)", x.end(20), 20);
        Crowd.due("wedding", x.wedding(), -1);
        Crowd.due("the last byte is there", x.fault(1), 19);
    }

    @Says("NONE, doing nothing, if it has not so many")
    static void promise03_notSoManyBytesAreThere() {
        Objections x = new Objections();
        Crowd.due("end(1) of an empty TAPE", x.end(1), -1);
        Crowd.feed(x, "bar 7;");
        Crowd.due("end(7)", x.end(7), -1);
        Crowd.due("end(1600)", x.end(1600), -1);
        Crowd.due("end(max)", x.end(Integer.MAX_VALUE), -1);
        Crowd.due("about(12)", x.about(12), 6);
        Crowd.due("wedding", x.wedding(), 0);
        Crowd.due("bar", x.about(4), 7);
    }

    @Says("or n is below 0")
    static void promise03_below0NothingIsDone() {
        Objections x = new Objections();
        Crowd.due("end(-1) of an empty TAPE", x.end(-1), -1);
        Crowd.feed(x, "bar 7;");
        Crowd.due("end(-1)", x.end(-1), -1);
        Crowd.due("end(min)", x.end(Integer.MIN_VALUE), -1);
        Crowd.due("about(12)", x.about(12), 6);
        Crowd.due("wedding", x.wedding(), 0);
        Crowd.due("bar", x.about(4), 7);
    }

    // ---- promise 4: what it answers and does

    @Says("how many OBJECTORS")
    static void promise04_howManyObjectors() {
        Crowd.fine(A, 1, 0);
        Crowd.fine(AB, 2, 0);
        Crowd.fine(SEVEN, 7, 0);
    }

    @Says("wedding = {line}.")
    static void promise04_noLineIsAWeddingToo() {
        Crowd.fine("", 0, 0);
        Crowd.fine(" ", 0, 0);
        Crowd.fine("\n \n", 0, 0);
        Objections x = Crowd.told(AB + "bar 9;order 1;");
        Crowd.due("an empty one behind another", x.wedding(), 0);
        Crowd.about(x, 0, 0, 0, 0, 100, 0, 0);
        Crowd.due("units", x.about(13), 0);
    }

    @Says("A WEDDING is a text of at most 1,600 bytes")
    static void promise04_aFullTapeIsReadToItsEnd() {
        Objections x = full();
        Crowd.due("wedding", x.wedding(), 0);
        Crowd.due("bar 765;", x.about(4), 765);
        x = full();
        x.end(1580);
        x.feed(0x20202020, 0x20202020, 0x20202020, 0x20202020, 0x20202024);
        Crowd.due("wedding", x.wedding(), -1);
        Crowd.due("the last byte is no TOKEN", x.fault(1), 1599);
    }

    @Says("The TAPE (empty then) is the WEDDING")
    static void promise04_theTapeIsEmptyThen() {
        Objections x = Crowd.told(A);
        Crowd.due("about(12)", x.about(12), 0);
        Crowd.due("end(1)", x.end(1), -1);
        Crowd.due("no OBJECTOR is told twice", x.wedding(), 0);
    }

    @Says("(all as told")
    static void promise04_allIsAsTold() {
        Objections x = Crowd.ofEachSort();
        x.pause(60);
        Crowd.due("wedding", Crowd.wed(x, SEVEN), 7);
        Crowd.is(x, 0, 0, 0, 0, 0, 0, 0);
        x.trade(2, 5);
        x.pause(3);
        Crowd.due("wedding", Crowd.wed(x, AB + "objector c grave 1 minutes 1 late;draw 17;"), 3);
        Crowd.is(x, 0, 0, 6);
        Crowd.due("NUMBER", x.objector(2, 3), 2);
        Crowd.due("waited", x.objector(0, 4), 0);
        Crowd.due("SEED", x.about(2), 17);
    }

    @Says("The TAPE (empty then) is the WEDDING (all as told")
    static void promise04_eachOnesNumberAndComingAreAsTold() {
        for (int late = 0; late < 7; late++) {
            Objections x = Crowd.told(Crowd.oneBrought(late));
            x.hear();
            x.trade(late, (late + 2) % 7);
            Crowd.due("wedding", Crowd.wed(x, SEVEN), 7);
            x.pause(3);
            for (int i = 0; i < 7; i++) {
                Crowd.due("objector(" + i + ", 3)", x.objector(i, 3), i);
                Crowd.due("objector(" + i + ", 4)", x.objector(i, 4), 3);
            }
        }
    }

    @Says("minute 0, nothing spent")
    static void promise04_minute0AndNothingSpent() {
        Objections x = Crowd.ofEachSort();
        Crowd.about(x, 7, 2, 798, 7);
        Crowd.due("wedding", Crowd.wed(x, AB), 2);
        Crowd.about(x, 2, 0, 0, 0);
    }

    @Says("no ACTS are kept, nothing is SEEN")
    static void promise04_noActsAreKept() {
        Objections x = Crowd.told(AB);
        x.pause(1);
        x.pause(2);
        x.undo();
        Crowd.due("wedding", Crowd.wed(x, AB), 2);
        Crowd.due("about(8)", x.about(8), 0);
        Crowd.due("about(9)", x.about(9), 0);
        Crowd.due("undo", x.undo(), false);
        Crowd.due("redo", x.redo(), false);
        Crowd.due("minute", x.about(1), 0);
    }

    @Says("nothing is SEEN, nothing lies there")
    static void promise04_nothingIsSeen() {
        Objections x = Crowd.told(AB);
        Crowd.due("seen", x.seen(1, 0, true), 0);
        Crowd.due("seen", x.seen(2, 0, true), 1);
        Crowd.due("wedding", Crowd.wed(x, AB), 2);
        Crowd.due("about(10)", x.about(10), 0);
        Crowd.due("fits", x.fits(0), 100);
        Crowd.due("untell", x.untell(0), false);
        Crowd.due("the first number again", x.seen(1, 0, true), 0);
    }

    @Says("nothing lies there, BOXES are empty then")
    static void promise04_nothingLiesThere() {
        Objections x = Crowd.told(AB);
        Crowd.due("queue", x.queue(), 2);
        Crowd.due("wedding", Crowd.wed(x, AB), 2);
        Crowd.row(x);
    }

    @Says("BOXES are empty then")
    static void promise04_boxesAreEmptyThen() {
        Objections x = Crowd.told(AB);
        for (int box = 0; box < 3; box++) {
            Crowd.due("image", x.image(box), 0);
        }
        Crowd.due("wedding", Crowd.wed(x, AB), 2);
        for (int box = 0; box < 3; box++) {
            Crowd.due("back", x.back(box), -1);
        }
    }

    @Says("the TIME stays)")
    static void promise04_theTimeStays() {
        Objections x = Crowd.told(AB);
        x.later(1000);
        Crowd.due("wedding", Crowd.wed(x, AB), 2);
        Crowd.due("about(11)", x.about(11), 1000);
        x.seen(1, 0, true);
        Crowd.due("told at the TIME that is", x.fits(999), 100);
        Crowd.due("told at the TIME that is", x.fits(1000), 2);
    }

    @Says("NONE: a FAULT (the TAPE is empty then, too")
    static void promise04_behindAFaultTheTapeIsEmptyToo() {
        Objections x = Crowd.told(A);
        Crowd.due("wedding", Crowd.wed(x, AB + "$" + AB), -1);
        Crowd.due("about(12)", x.about(12), 0);
        Crowd.due("end(1)", x.end(1), -1);
        Crowd.due("what comes then", Crowd.wed(x, "bar 5;"), 0);
        Crowd.due("is all", x.about(4), 5);
    }

    @Says("all else stays)")
    static void promise04_behindAFaultAllElseStays() {
        Objections x = Crowd.told(AB + "objector c grave 3 minutes 3 stays 50 price 4 late;settles a b;brings b c;joined a b 50;order 0-grave;"
                + "answer 0;bar 51;draw 5;");
        x.later(3);
        x.buy(1);
        x.undo();
        x.seen(1, 0, true);
        x.image(1);
        x.queue();
        String other = AB + "objector d grave 9 minutes 9 stays 0;objector e grave 9 minutes 9 stays 0;settles b a;brings a d;joined b a 7;"
                + "order grave;answer 100;bar 1;draw 9;";
        Crowd.due("wedding", Crowd.wed(x, other + "$"), -1);
        Crowd.about(x, 3, 0, 5, 0, 51, 0, 3, 0, 0, 1, 1, 3, 0, 3, 2);
        Crowd.due("settles", x.objector(0, 6), 2);
        Crowd.due("brings", x.objector(1, 7), 4);
        Crowd.due("objector(2, 1)", x.objector(2, 1), 3);
        Crowd.row(x, 0, 1);
        Crowd.due("order", x.ranks(1), -2);
        Crowd.due("redo", x.redo(), true);
        Crowd.due("minute of the BOX", x.back(1), 0);
        Crowd.due("what is SEEN", x.untell(0), true);
        Crowd.due("hear", x.hear(), 0);
        Crowd.is(x, 2, 3, 6);
    }

    @Says("all else stays)")
    static void promise04_behindAFaultNothingBeginsAgain() {
        Objections x = Crowd.ofEachSort();
        x.pause(3);
        Crowd.due("wedding", Crowd.wed(x, SEVEN + "draw 17;$"), -1);
        Crowd.is(x, 1, 2, 3, 4, 5, 6, 0);
        Crowd.about(x, 7, 5, 798, 7, 100, 0, 64, 2, 4, 0);
        Crowd.due("waited", x.objector(6, 4), 5);
        Crowd.due("undo", x.undo(), true);
        Crowd.due("minute", x.about(1), 2);
        x = Crowd.told(AB);
        x.trade(0, 1);
        Crowd.due("wedding", Crowd.wed(x, AB + "bar 0;"), -1);
        Crowd.due("NUMBER", x.objector(0, 3), 1);
    }

    @Says("The TAPE (empty then) is the WEDDING (all as told")
    static void promise04_nothingOfTheWeddingBeforeStays() {
        Objections x = Crowd.told(A + "objector b grave 2 minutes 2 stays 3 price 4 late;settles a b;brings a b;joined a b 9;order 0-1;answer 0;"
                + "bar 3;draw 4;");
        Crowd.due("wedding", Crowd.wed(x, AB), 2);
        Crowd.about(x, 2, 0, 0, 0, 100, 0, 3);
        Crowd.due("price", x.objector(1, 5), 0);
        Crowd.due("settles", x.objector(0, 6), 0);
        Crowd.due("brings", x.objector(0, 7), 0);
        Crowd.due("order", x.ranks(1), 2);
        Crowd.due("answer", x.odds(1, 0), 1);
        Crowd.due("units", x.about(13), 0);
        Crowd.due("pause", x.pause(4), 0);
        Crowd.due("wedding", Crowd.wed(x, AB + "answer 0;"), 2);
        x.hear();
        x.hear();
        Crowd.due("joined", x.weight(), 3);
    }

    @Says("12 settles, 6 brings, 6 joined (two OBJECTORS told ahead, unlike; each two of a sort once")
    static void promise04_asManyAndTheSameTwoInTheNextWedding() {
        Objections x = Crowd.told(SEVEN + TWELVE + SIX + JOINED + "order 1;answer 0;bar 1;draw 1;");
        Crowd.due("the same again", Crowd.wed(x, SEVEN + TWELVE + SIX + JOINED + "order 1;answer 0;bar 1;draw 1;"), 7);
        Crowd.due("the same again, behind a FAULT", Crowd.wed(x, SEVEN + TWELVE + SIX + JOINED + "$"), -1);
        Crowd.due("the same again", Crowd.wed(x, SEVEN + TWELVE + SIX + JOINED), 7);
    }

    @Says("The TAPE (empty then) is the WEDDING (all as told")
    static void promise04_nothingOfALongerFormulaBeforeStays() {
        Objections x = Crowd.told(A + "order not 0;answer not 0;");
        Crowd.due("order not 0", x.ranks(0), 1);
        Crowd.due("wedding", Crowd.wed(x, A + "order 7;answer 50;"), 1);
        Crowd.due("order 7", x.ranks(0), 7);
        Crowd.due("answer 50", x.odds(1, 1), 2);
        Crowd.due("wedding", Crowd.wed(x, A + "order not grave-minutes;answer 1 and not waited;"), 1);
        Crowd.due("wedding", Crowd.wed(x, A), 1);
        Crowd.due("his grave", x.ranks(0), 1);
        Crowd.due("100", x.odds(1, 0), 1);
    }

    @Says("The TAPE (empty then) is the WEDDING (all as told")
    static void promise04_noneOfTheJoinedBeforeStay() {
        String all = SEVEN + "answer 0;";
        for (char c = 'a'; c < 'g'; c++) {
            Objections x = Crowd.told(all + "joined " + c + " " + (char) (c + 1) + " 99;");
            Crowd.due("wedding", Crowd.wed(x, all), 7);
            for (int i = 0; i < 7; i++) {
                x.hear();
            }
            Crowd.due("weight", x.weight(), 8);
        }
    }

    @Says("The TAPE (empty then) is the WEDDING (all as told")
    static void promise04_nothingOfATextWithAFaultStays() {
        Objections x = new Objections();
        Crowd.due("wedding", Crowd.wed(x, AB + "settles a b;brings a b;joined a b 9;order 1;answer 0;bar 3;draw 4;$"), -1);
        Crowd.due("wedding", Crowd.wed(x, AB), 2);
        Crowd.about(x, 2, 0, 0, 0, 100, 0, 3);
        Crowd.due("settles", x.objector(0, 6), 0);
        Crowd.due("brings", x.objector(0, 7), 0);
        Crowd.due("units", x.about(13), 0);
        Crowd.due("order", x.ranks(1), 2);
        Crowd.due("once each, of one text", Crowd.wed(x, AB + "settles a b;brings a b;joined a b 9;order 1;answer 0;bar 3;draw 4;"), 2);
    }

    // ---- promise 4: what may stand in a text

    @Says("objector NAME grave N minutes N [stays N] [price N] [late] ;")
    static void promise04_whatNeedNotBeTold() {
        String[] stays = {"", " stays 5"};
        String[] price = {"", " price 6"};
        String[] late = {"", " late"};
        for (int i = 0; i < 8; i++) {
            Objections x = Crowd.told("objector b grave 1 minutes 6;objector a grave 0 minutes 4" + stays[i & 1] + price[i >> 1 & 1] + late[i >> 2] + ";brings b a;");
            Crowd.due("late", x.objector(1, 0), i >> 2 == 1 ? 6 : 0);
            Crowd.due("price", x.objector(1, 5), (i >> 1 & 1) == 1 ? 6 : 0);
            x.hear();
            Crowd.due("stays", x.objector(1, 0), i >> 2 == 0 && (i & 1) == 1 ? 4 : 0);
        }
    }

    @Says("stays 0 .. 999, 999 if not told")
    static void promise04_stays999IfNotTold() {
        Objections x = Crowd.told(A + "objector b grave 1 minutes 1 stays 998;objector c grave 1 minutes 1 stays 999;");
        for (int i = 0; i < 16; i++) {
            Crowd.due("pause", x.pause(60), 0);
        }
        Crowd.due("998", x.pause(38), 0);
        Crowd.due("999", x.pause(1), 1);
        Crowd.is(x, 0, 4, 0);
        Crowd.due("1,000", x.pause(1), 2);
    }

    @Says("price 0 .. 99, 0 if not told")
    static void promise04_price0IfNotTold() {
        Objections x = Crowd.told(A + "objector b grave 1 minutes 1 price 0;objector c grave 1 minutes 1 price 99;");
        Crowd.due("not told", x.objector(0, 5), 0);
        Crowd.due("told", x.objector(1, 5), 0);
        Crowd.due("told", x.objector(2, 5), 99);
    }

    @Says("bar (1 .. 999; 100)")
    static void promise04_bar100IfNotTold() {
        Crowd.due("not told", Crowd.told(A).about(4), 100);
        Crowd.due("bar 1", Crowd.told("bar 1;").about(4), 1);
        Crowd.due("bar 999", Crowd.told("bar 999;").about(4), 999);
    }

    @Says("draw (0 .. 999; 0)")
    static void promise04_draw0IfNotTold() {
        Crowd.due("not told", Crowd.told(A).about(2), 0);
        Crowd.due("draw 0", Crowd.told("draw 0;").about(2), 0);
        Crowd.due("draw 999", Crowd.told("draw 999;").about(2), 999);
    }

    @Says("(grave 0 .. 99; minutes 1 .. 60; stays 0 .. 999, 999 if not told; price 0 .. 99, 0 if not told)")
    static void promise04_theLeastAndTheGreatestNumbers() {
        Objections x = Crowd.told("objector a grave 0 minutes 1 stays 0 price 0;objector b grave 99 minutes 60 stays 999 price 99;");
        int[] least = {0, 0, 1, 0, 0, 0};
        int[] greatest = {0, 99, 60, 1, 0, 99};
        for (int i = 0; i < 6; i++) {
            Crowd.due("objector(0, " + i + ")", x.objector(0, i), least[i]);
            Crowd.due("objector(1, " + i + ")", x.objector(1, i), greatest[i]);
        }
        Crowd.due("stays 0", x.pause(1), 1);
    }

    @Says("joined 1 .. 99)")
    static void promise04_joined1To99() {
        Objections x = Crowd.told(AB + "objector c grave 3 minutes 1;joined a b 1;joined b c 99;answer 0;");
        x.hear();
        x.hear();
        Crowd.due("c and b", x.weight(), 3 + 2 + 99);
        x.hear();
        Crowd.due("a, too", x.weight(), 3 + 2 + 1 + 99 + 1);
    }

    @Says("12 settles, 6 brings, 6 joined")
    static void promise04_asManyOfASortAsMayBe() {
        Crowd.fine(SEVEN + TWELVE, 7, 0);
        Crowd.fine(SEVEN + SIX, 7, 0);
        Crowd.fine(SEVEN + JOINED, 7, 0);
        Crowd.fine(SEVEN + JOINED + SIX + TWELVE, 7, 0);
        Objections x = Crowd.told(SEVEN + TWELVE + SIX);
        Crowd.due("settles", x.objector(1, 6), 125);
        Crowd.due("brings", x.objector(2, 7), 2);
    }

    @Says("each two of a sort once, joined in whichever order")
    static void promise04_theSameTwoInAnotherSortOrOrder() {
        Crowd.fine(AB + "settles a b;settles b a;brings a b;brings b a;joined a b 1;", 2, 0);
    }

    @Says("order, answer, bar (1 .. 999; 100), draw (0 .. 999; 0) once each")
    static void promise04_onceEachInWhicheverOrder() {
        Crowd.fine("draw 1;bar 1;answer 1;order 1;" + A, 1, 2);
        Crowd.fine("order 1;" + A + "draw 1;answer 1;bar 1;", 1, 2);
    }

    @Says("words (a .. z, 8 at most)")
    static void promise04_eightLettersAreAWord() {
        Crowd.fine("objector abcdefgh grave 1 minutes 1;objector zyxwvuts grave 1 minutes 1;settles abcdefgh zyxwvuts;", 2, 0);
        Crowd.fine("objector aaaaaaaa grave 1 minutes 1;objector aaaaaaa grave 1 minutes 1;", 2, 0);
    }

    @Says("3 a NAME told already")
    static void promise04_namesThatDifferInOneLetterOrInLengthAreTwo() {
        for (char c = 'a'; c <= 'z'; c++) {
            StringBuilder text = new StringBuilder();
            for (int length = 2; length <= 8; length++) {
                text.append("objector ").append(String.valueOf(c).repeat(length)).append(" grave 1 minutes 1;");
            }
            Crowd.fine(text.toString(), 7, 0);
        }
        String[][] rows = {{"abcdefgh", "bbcdefgh", "zbcdefgh", "abcdefgi", "abcdefg", "bcdefgh", "bacdefgh"}, {"a", "b", "aa", "ab", "ba", "az", "za"},
            {"aaaaaaaa", "qaaaaaaa", "iaaaaaaa", "aaaaaaab", "aaaqaaaa", "aaaaqaaa", "baaaaaaa"}};
        for (String[] row : rows) {
            StringBuilder text = new StringBuilder();
            for (String name : row) text.append("objector ").append(name).append(" grave 1 minutes 1;");
            Crowd.fine(text.toString(), 7, 0);
        }
    }

    @Says("N (1 to 4 digits)")
    static void promise04_oneToFourDigits() {
        Objections x = Crowd.told("objector a grave 0009 minutes 060;order 9999+0-00-000-0000;");
        Crowd.due("0009", x.objector(0, 1), 9);
        Crowd.due("060", x.objector(0, 2), 60);
        Crowd.due("9999", x.ranks(0), 9999);
    }

    @Says("blanks (32, 10) part them or not; each is as long as can be")
    static void promise04_blanksOrNot() {
        Crowd.fine("objector a grave1 minutes2 stays3 price4 late;bar5;draw6;order not(grave<minutes)or 3*waited;", 1, 5);
        Crowd.fine("\n objector\na\ngrave  1\n\nminutes 2 \n; bar\n5 ; order \n(\n1 )\n<\n2 ;\n ", 1, 3);
        Crowd.fine("objector minuteso grave 1 minutes 1;order minutes+minute;", 1, 2);
    }

    @Says("Words that stand for themselves here are no NAMES.")
    static void promise04_otherWordsAreNames() {
        for (String name : new String[] {"n", "e", "name", "line", "wedding", "both", "one", "sum", "term", "unit", "words", "grav", "graves", "orders", "o", "nota"}) {
            Crowd.fine("objector " + name + " grave 1 minutes 1;", 1, 0);
        }
    }

    @Says("unit = N | grave | minutes | waited | number | heard | minute | ( e ).")
    static void promise04_eachUnitIsOne() {
        for (String unit : new String[] {"5", "grave", "minutes", "waited", "number", "heard", "minute"}) {
            Crowd.fine("order " + unit + ";", 0, 1);
            Crowd.fine("answer (" + unit + ");", 0, 2);
        }
    }

    @Says("60 units in all, 30 in one e")
    static void promise04_thirtyUnitsInEachOfTwo() {
        Crowd.fine("order " + ones(30) + ";answer " + ones(30) + ";", 0, 60);
        Crowd.fine("order (" + ones(29) + ");answer ((" + ones(28) + "));", 0, 60);
    }

    @Says("(a unit ( e ), or a one behind not, within 6 others at most)")
    static void promise04_within6Others() {
        Crowd.fine("order " + "(".repeat(7) + "1" + ")".repeat(7) + ";", 0, 8);
        Crowd.fine("order " + "not ".repeat(7) + "1;", 0, 1);
        Crowd.fine("order " + "(not ".repeat(3) + "(1" + ")".repeat(4) + ";", 0, 5);
        Crowd.fine("order " + "not(".repeat(3) + "not 1" + ")".repeat(3) + ";", 0, 4);
    }

    @Says("(a unit ( e ), or a one behind not, within 6 others at most)")
    static void promise04_oneBesideAnotherIsNotWithinIt() {
        String deep = "(".repeat(7) + "1" + ")".repeat(7);
        Crowd.fine("order " + deep + "+" + deep + "<" + deep + ";", 0, 24);
        Crowd.fine("order not " + "not ".repeat(6) + "1 and " + "not ".repeat(7) + "1 or " + "not ".repeat(7) + "1;", 0, 3);
        Crowd.fine("order " + deep + ";answer " + deep + ";", 0, 16);
    }

    // ---- promise 5: what it answers

    @Says("Of the latest wedding() what 0: its FAULT (0: without; ahead of any, too), 1: its place (NONE).")
    static void promise05_aheadOfAnyThereIsNone() {
        Objections x = new Objections();
        Crowd.due("fault(0)", x.fault(0), 0);
        Crowd.due("fault(1)", x.fault(1), -1);
        x.feed(0x24242424, 0, 0, 0, 0);
        Crowd.due("fault(0), nothing read", x.fault(0), 0);
        Crowd.due("fault(1), nothing read", x.fault(1), -1);
    }

    @Says("Of the latest wedding() what 0: its FAULT (0: without; ahead of any, too), 1: its place (NONE).")
    static void promise05_withoutAFaultThereIsNoPlace() {
        Objections x = new Objections();
        Crowd.wed(x, "bar 5");
        Crowd.due("fault(0)", x.fault(0), 2);
        Crowd.due("fault(1)", x.fault(1), 5);
        Crowd.wed(x, "bar 5;");
        Crowd.due("fault(0)", x.fault(0), 0);
        Crowd.due("fault(1)", x.fault(1), -1);
    }

    @Says("Of the latest wedding()")
    static void promise05_theLatestOneCounts() {
        Objections x = new Objections();
        Crowd.wed(x, "$");
        Crowd.wed(x, "bar 0;");
        Crowd.due("fault(0)", x.fault(0), 4);
        Crowd.due("fault(1)", x.fault(1), 4);
        x.hear();
        x.end(0);
        Crowd.due("fault(0), much later", x.fault(0), 4);
    }

    @Says("NONE for another what. ## Promise 6")
    static void promise05_anotherWhat() {
        Objections x = new Objections();
        Crowd.wed(x, "bar 0;");
        for (int what : new int[] {-1, 2, Integer.MIN_VALUE, Integer.MAX_VALUE}) {
            Crowd.due("fault(" + what + ")", x.fault(what), -1);
        }
    }

    // ---- promise 5: FAULT 1

    @Says("(what is none of these")
    static void promise05_eachByteThatIsNoToken() {
        for (int b = 0; b < 256; b++) {
            boolean blank = b == 32 || b == 10;
            boolean known = b >= 'a' && b <= 'z' || b >= '0' && b <= '9' || ";()<>=+-*/%".indexOf(b) >= 0;
            Objections x = new Objections();
            Crowd.feed(x, "bar 5;" + (char) b);
            Crowd.due("wedding with byte " + b, x.wedding(), blank ? 0 : -1);
            Crowd.due("fault(0) with byte " + b, x.fault(0), blank ? 0 : known ? 2 : 1);
            Crowd.due("fault(1) with byte " + b, x.fault(1), blank ? -1 : 6);
        }
    }

    @Says("a longer word, more digits")
    static void promise05_nineLettersAreNoToken() {
        Crowd.faulty(1, "objector ^abcdefghi grave 1 minutes 1;");
        Crowd.faulty(1, "^objectors a grave 1 minutes 1;");
        Crowd.faulty(1, "^objectora grave 1 minutes 1;");
        Crowd.faulty(1, "order ^" + "z".repeat(500) + ";");
    }

    @Says("a longer word, more digits")
    static void promise05_fiveDigitsAreNoToken() {
        Crowd.faulty(1, "bar ^00005;");
        Crowd.faulty(1, "order 1+^12345;");
        Crowd.faulty(1, "order ^" + "9".repeat(500) + ";");
        // so many that a number of 32 bits would be 5 again
        Crowd.faulty(1, "bar ^4294967301;");
    }

    @Says("no letter directly behind an N")
    static void promise05_aLetterBehindANumberIsNoToken() {
        Crowd.faulty(1, "bar ^5z;");
        Crowd.faulty(1, "objector a grave ^1minutes 1;");
        Crowd.faulty(1, "order ^1and 1;");
        Crowd.faulty(1, "order ^9999a;");
        Crowd.fine("objector a grave 1 minutes 1;order 1 and(2)or 3;", 1, 4);
    }

    @Says("each is as long as can be")
    static void promise05_aWordGoesOnToItsEnd() {
        Crowd.faulty(2, "order ^notnot 1;");
        Crowd.faulty(2, "^bardraw 5;");
        Crowd.faulty(2, "order 1 ^andnot 1;");
        Crowd.faulty(2, "objector a grave 1 minutes 1 ^latest;");
    }

    // ---- promise 5: FAULT 2

    @Says("2 one that can't stand there")
    static void promise05_whatCantBeginALine() {
        for (String word : new String[] {"grave", "minutes", "stays", "price", "late", "or", "and", "not", "waited", "number", "heard", "minute",
            "vicar", "5", "(", ")", ";", "<", "="}) {
            Crowd.faulty(2, "^" + word + " a grave 1 minutes 1;");
        }
        Crowd.faulty(2, "bar 5;^;");
    }

    @Says("objector NAME grave N minutes N [stays N] [price N] [late] ;")
    static void promise05_whatCantStandInAnObjectorsLine() {
        Crowd.faulty(2, "objector ^5 grave 1 minutes 1;");
        Crowd.faulty(2, "objector ^; a grave 1 minutes 1;");
        Crowd.faulty(2, "objector a ^b grave 1 minutes 1;");
        Crowd.faulty(2, "objector a ^minutes 1 grave 1;");
        Crowd.faulty(2, "objector a grave ^minutes 1;");
        Crowd.faulty(2, "objector a grave ^a minutes 1;");
        Crowd.faulty(2, "objector a grave ^-1 minutes 1;");
        Crowd.faulty(2, "objector a grave 1 ^minute 1;");
        Crowd.faulty(2, "objector a grave 1^; minutes 1;");
        Crowd.faulty(2, "objector a grave 1 minutes 1 price 1 ^stays 1;");
        Crowd.faulty(2, "objector a grave 1 minutes 1 late ^price 1;");
        Crowd.faulty(2, "objector a grave 1 minutes 1 late ^stays 1;");
        Crowd.faulty(2, "objector a grave 1 minutes 1 late ^late;");
        Crowd.faulty(2, "objector a grave 1 minutes 1 stays 1 ^stays 1;");
        Crowd.faulty(2, "objector a grave 1 minutes 1 price 1 ^price 1;");
        Crowd.faulty(2, "objector a grave 1 minutes 1 stays ^price 1;");
        Crowd.faulty(2, "objector a grave 1 minutes 1 price ^late;");
    }

    @Says("settles NAME NAME ; | brings NAME NAME ; | joined NAME NAME N ;")
    static void promise05_whatCantStandInALineOfTwo() {
        for (String word : new String[] {"settles", "brings"}) {
            Crowd.faulty(2, AB + word + "^;");
            Crowd.faulty(2, AB + word + " a^;");
            Crowd.faulty(2, AB + word + " a ^5;");
            Crowd.faulty(2, AB + word + " ^5 b;");
            Crowd.faulty(2, AB + word + " a b ^b;");
            Crowd.faulty(2, AB + word + " a b ^1;");
        }
        Crowd.faulty(2, AB + "joined a b^;");
        Crowd.faulty(2, AB + "joined a ^1;");
        Crowd.faulty(2, AB + "joined a b ^b;");
        Crowd.faulty(2, AB + "joined a b 1 ^1;");
    }

    @Says("order e ; | answer e ; | bar N ; | draw N ;.")
    static void promise05_whatCantStandInALineOfOneNumber() {
        for (String word : new String[] {"bar", "draw"}) {
            Crowd.faulty(2, word + "^;");
            Crowd.faulty(2, word + " ^-5;");
            Crowd.faulty(2, word + " ^(5);");
            Crowd.faulty(2, word + " ^grave;");
            Crowd.faulty(2, word + " 5^+5;");
            Crowd.faulty(2, word + " 5 ^5;");
        }
    }

    @Says("unit = N | grave | minutes | waited | number | heard | minute | ( e ).")
    static void promise05_whatIsNoUnit() {
        for (String word : new String[] {"order", "answer"}) {
            for (String unit : new String[] {";", ")", "+", "-", "<", "and", "or", "late", "stays", "price", "objector", "bar", "a", "vicar"}) {
                Crowd.faulty(2, A + word + " ^" + unit);
                Crowd.faulty(2, A + word + " 1*^" + unit);
                Crowd.faulty(2, A + word + " (^" + unit);
            }
        }
    }

    @Says("one = not one | sum [(< | > | =) sum].")
    static void promise05_oneRelationAtMostAndNoNotWithinASum() {
        for (String first : new String[] {"<", ">", "="}) {
            for (String second : new String[] {"<", ">", "="}) {
                Crowd.faulty(2, "order 1" + first + "2^" + second + "3;");
            }
        }
        Crowd.faulty(2, "order 1<^not 2;");
        Crowd.faulty(2, "order 1+^not 2;");
        Crowd.faulty(2, "order 1*^not 2;");
        Crowd.faulty(2, "order not^;");
        Crowd.fine("order (1<2)<3 and 1<(2<3) or not 1<2;", 0, 10);
    }

    @Says("both = one {and one}.")
    static void promise05_whatStandsBehindAUnit() {
        Crowd.faulty(2, "order 1 ^1;");
        Crowd.faulty(2, "order grave ^not 1;");
        Crowd.faulty(2, "order 1 ^(1);");
        Crowd.faulty(2, "order 1^);");
        Crowd.faulty(2, "order (1^;");
        Crowd.faulty(2, "order (1 ^1);");
        Crowd.faulty(2, "order (1)^)");
        Crowd.faulty(2, "order 1 and 1 ^late");
        Crowd.faulty(2, "order 1 or ^or 1;");
    }

    @Says("the end: the text's length")
    static void promise05_theEndIsThePlaceBehindTheLastByte() {
        for (String text : new String[] {"bar", "bar 5", "bar 5  \n", "objector", "objector a grave 1 minutes 1", A + "settles", A + "settles a",
            AB + "joined a b", "order", "order not", "order 1+", "order (1", "order (1)"}) {
            Crowd.faulty(2, text + "^");
        }
    }

    @Says("(bytes from 0; the end: the text's length)")
    static void promise05_whatWasCutOffIsNotRead() {
        String[] texts = {"bar 12", "order gravel", "bar 1x", "objector a grave 1 minutes 1;", "order 1+1"};
        int[] ends = {5, 11, 5, 28, 8};
        for (int i = 0; i < texts.length; i++) {
            Objections x = new Objections();
            Crowd.feed(x, texts[i]);
            Crowd.due("end", x.end(ends[i]), ends[i]);
            Crowd.due("wedding of " + texts[i] + " without its end", x.wedding(), -1);
            Crowd.due("fault(0) of " + texts[i] + " without its end", x.fault(0), 2);
            Crowd.due("fault(1) of " + texts[i] + " without its end", x.fault(1), ends[i]);
        }
    }

    @Says("A WEDDING is a text of at most 1,600 bytes")
    static void promise05_aFullTapeMayEndWithinALine() {
        for (String last : new String[] {"bar", "draw 7", "order 1+", "a", "9", "bar 7 "}) {
            Objections x = new Objections();
            Crowd.feed(x, " ".repeat(1600 - last.length()) + last);
            Crowd.due("wedding", x.wedding(), -1);
            Crowd.due("fault(0) of " + last, x.fault(0), 2);
            Crowd.due("fault(1) of " + last, x.fault(1), last.length() == 1 ? 1599 : 1600);
        }
    }

    @Says("(one of a sort too many or a second time: at the line's first word")
    static void promise05_oneOfASortTooMany() {
        Crowd.faulty(2, SEVEN + "^objector h grave 1 minutes 1;");
        Crowd.faulty(2, SEVEN + "^objector a grave 100;");
        Crowd.faulty(2, SEVEN + TWELVE + "^settles c a;");
        Crowd.faulty(2, SEVEN + TWELVE + "^settles a a;");
        Crowd.faulty(2, SEVEN + SIX + "^brings d a;");
        Crowd.faulty(2, SEVEN + SIX + "^brings z z;");
        Crowd.faulty(2, SEVEN + JOINED + "^joined a e 1;");
        Crowd.faulty(2, SEVEN + JOINED + "^joined a b 0;");
    }

    @Says("(one of a sort too many or a second time: at the line's first word")
    static void promise05_aSecondTime() {
        Crowd.faulty(2, "order 1;answer 1;bar 1;draw 1;^order 1;");
        Crowd.faulty(2, "order 1;answer 1;bar 1;draw 1;^answer $");
        Crowd.faulty(2, "order 1;answer 1;bar 1;draw 1;^bar 0;");
        Crowd.faulty(2, "order 1;answer 1;bar 1;draw 1;^draw;");
        Crowd.faulty(2, "draw 0;^draw 0;");
        Crowd.faulty(2, "bar 100;^bar 100;");
    }

    @Says("a unit too many, what is within 7 others: at its first TOKEN, or the not)")
    static void promise05_aUnitTooMany() {
        Crowd.faulty(2, "order " + ones(30) + "+^1;");
        Crowd.faulty(2, "order " + ones(30) + "+^grave;");
        Crowd.faulty(2, "order " + ones(30) + "+^(1);");
        Crowd.faulty(2, "order " + ones(29) + "+(^1);");
        Crowd.faulty(2, "order (" + ones(29) + "+^1);");
        Crowd.faulty(2, "order " + ones(30) + ";answer " + ones(30) + "+^1;");
        Crowd.faulty(2, "answer 1<" + ones(29) + " and not ^1;");
    }

    @Says("a unit too many, what is within 7 others: at its first TOKEN, or the not)")
    static void promise05_within7Others() {
        Crowd.faulty(2, "order " + "(".repeat(7) + "^(1");
        Crowd.faulty(2, "order " + "not ".repeat(7) + "^not 1;");
        Crowd.faulty(2, "order " + "not ".repeat(7) + "^(1);");
        Crowd.faulty(2, "order " + "(".repeat(7) + "^not 1");
        Crowd.faulty(2, "order " + "not(".repeat(3) + "not ^(1)" + ")))");
        Crowd.faulty(2, "order " + "(not ".repeat(3) + "(^not 1");
        Crowd.faulty(2, "order 1+" + "(".repeat(7) + "1*^(1");
        Crowd.faulty(2, "answer " + "(".repeat(7) + "1" + ")".repeat(7) + "+" + "(".repeat(7) + "^(1");
    }

    @Says("Words that stand for themselves here are no NAMES.")
    static void promise05_noNames() {
        for (String word : OWN) {
            Crowd.faulty(2, "objector ^" + word + " grave 1 minutes 1;");
            Crowd.faulty(2, A + "settles ^" + word + " a;");
            Crowd.faulty(2, A + "brings a ^" + word + ";");
            Crowd.faulty(2, A + "joined a ^" + word + " 1;");
        }
    }

    // ---- promise 5: FAULTS 3, 4 and 5

    @Says("3 a NAME told already")
    static void promise05_aNameToldAlready() {
        Crowd.faulty(3, A + "objector ^a grave 1 minutes 1;");
        Crowd.faulty(3, AB + "objector ^b");
        Crowd.faulty(3, SEVEN.substring(0, 29 * 6) + "objector ^f");
    }

    @Says("two that are one, or told already (at the second NAME)")
    static void promise05_twoThatAreOne() {
        Crowd.faulty(3, AB + "settles b ^b;");
        Crowd.faulty(3, AB + "brings a ^a;");
        Crowd.faulty(3, AB + "joined b ^b 0;");
    }

    @Says("two that are one, or told already (at the second NAME)")
    static void promise05_twoToldAlready() {
        Crowd.faulty(3, AB + "settles a b;settles a ^b;");
        Crowd.faulty(3, AB + "brings b a;bar 5;brings b ^a;");
        Crowd.faulty(3, AB + "joined a b 1;joined a ^b 2;");
    }

    @Says("each two of a sort once, joined in whichever order")
    static void promise05_joinedAlreadyInTheOtherOrder() {
        Crowd.faulty(3, AB + "joined a b 1;joined b ^a 1;");
        Crowd.faulty(3, AB + "joined b a 1;joined a ^b $");
    }

    @Says("4 a number that can't be")
    static void promise05_numbersTooSmallOrTooLarge() {
        Crowd.faulty(4, "objector a grave ^100 minutes 1;");
        Crowd.faulty(4, "objector a grave 1 minutes ^0;");
        Crowd.faulty(4, "objector a grave 1 minutes ^61;");
        Crowd.faulty(4, "objector a grave 1 minutes 1 stays ^1000;");
        Crowd.faulty(4, "objector a grave 1 minutes 1 price ^100;");
        Crowd.faulty(4, "objector a grave 1 minutes 1 stays 1 price ^9999;");
        Crowd.faulty(4, AB + "joined a b ^0;");
        Crowd.faulty(4, AB + "joined a b ^100;");
        Crowd.faulty(4, "bar ^0;");
        Crowd.faulty(4, "bar ^1000;");
        Crowd.faulty(4, "draw ^1000;");
    }

    @Says("5 a NAME that no OBJECTOR has.")
    static void promise05_namesThatNoObjectorHas() {
        for (String word : new String[] {"settles", "brings", "joined"}) {
            Crowd.faulty(5, word + " ^a b;");
            Crowd.faulty(5, AB + word + " ^c b;");
            Crowd.faulty(5, AB + word + " ^c c;");
            Crowd.faulty(5, AB + word + " a ^c;");
            Crowd.faulty(5, AB + word + " a ^ab;");
        }
    }

    @Says("two OBJECTORS told ahead, unlike")
    static void promise05_oneToldOnlyLater() {
        Crowd.faulty(5, A + "settles a ^b;objector b grave 1 minutes 1;");
        Crowd.faulty(5, A + "brings ^b a;objector b grave 1 minutes 1;");
        Crowd.faulty(5, A + "joined a ^b 1;objector b grave 1 minutes 1;");
    }

    // ---- promise 5: where

    @Says("FAULTS, the first by its place (bytes from 0")
    static void promise05_theFirstByItsPlace() {
        Crowd.faulty(4, "bar ^0 $");
        Crowd.faulty(2, "^; bar 0;");
        Crowd.faulty(5, AB + "settles ^c a a;");
        Crowd.faulty(3, AB + "joined a ^a 0;");
        Crowd.faulty(1, "order ^# 1;bar 0;");
        Crowd.faulty(2, "order " + ones(30) + "+^1+((((((((1");
        Crowd.faulty(4, "objector a grave ^100 minutes 61;");
    }

    @Says("at one place the least: 1 no TOKEN; 2 one that can't stand there")
    static void promise05_atOnePlaceTheLeast() {
        // each of these could not stand there, if it were a TOKEN
        Crowd.faulty(1, "^123456;");
        Crowd.faulty(1, "bar 5 ^6a;");
        Crowd.faulty(1, "order " + ones(30) + "+^12345;");
        Crowd.faulty(1, "objector ^abcdefghi grave 1 minutes 1;");
        Crowd.faulty(1, AB + "settles a ^bbbbbbbbb;");
        Crowd.faulty(1, "bar ^99999;");
    }
}
