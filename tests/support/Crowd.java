/** Tells texts to Objections, and counts the answers that are not as due. */
final class Crowd {
    private static int wrong = 0;
    private static int asked = 0;
    private static String where = "";

    private Crowd() { }

    static void at(String place) {
        where = place;
    }

    static int asked() {
        return asked;
    }

    static void due(String call, long got, long want) {
        asked++;
        if (got != want) {
            wrong++;
            System.out.println(where + ": " + call + " answered " + got + ", due is " + want);
        }
    }

    static void due(String call, boolean got, boolean want) {
        due(call, got ? 1 : 0, want ? 1 : 0);
    }

    /** Puts a text on the TAPE, behind what is there. */
    static void feed(Objections x, String text) {
        int before = x.about(12);
        for (int at = 0; at < text.length(); at += 20) {
            int[] five = new int[5];
            for (int i = 0; i < 20; i++) {
                five[i / 4] = five[i / 4] << 8 | (at + i < text.length() ? text.charAt(at + i) : 0);
            }
            x.feed(five[0], five[1], five[2], five[3], five[4]);
        }
        due("end", x.end(before + text.length()), before + text.length());
    }

    static int wed(Objections x, String text) {
        feed(x, text);
        return x.wedding();
    }

    /** A new object whose WEDDING is this text. */
    static Objections told(String text) {
        Objections x = new Objections();
        due("wedding of " + text, wed(x, text) >= 0, true);
        return x;
    }

    /** The text has this FAULT where it has a ^ (which is not fed). */
    static void faulty(int why, String marked) {
        int place = marked.indexOf('^');
        String text = marked.replace("^", "");
        Objections x = told("objector old grave 1 minutes 1;");
        due("wedding of " + text, wed(x, text), -1);
        due("fault(0) of " + text, x.fault(0), why);
        due("fault(1) of " + text, x.fault(1), place);
        due("about(0) behind a fault", x.about(0), 1);
    }

    static void fine(String text, int people, int units) {
        Objections x = new Objections();
        due("wedding of " + text, wed(x, text), people);
        due("fault(0) of " + text, x.fault(0), 0);
        due("fault(1) of " + text, x.fault(1), -1);
        due("about(13) of " + text, x.about(13), units);
    }

    static void row(Objections x, int... due) {
        due("about(14)", x.about(14), due.length);
        for (int i = 0; i < due.length; i++) {
            due("lies(" + i + ")", x.lies(i), due[i]);
        }
        due("lies(" + due.length + ")", x.lies(due.length), -1);
    }

    /** What about() tells, from what 0 on. */
    static void about(Objections x, int... due) {
        for (int i = 0; i < due.length; i++) {
            due("about(" + i + ")", x.about(i), due[i]);
        }
    }

    /** What each OBJECTOR is, from the first one on. */
    static void is(Objections x, int... sorts) {
        for (int i = 0; i < sorts.length; i++) {
            due("objector(" + i + ", 0)", x.objector(i, 0), sorts[i]);
        }
    }

    /** Seven OBJECTORS, of each sort one: 0 is ANSWERED, 1 STANDS, 2 WITHDREW, 3 LEFT, 4 was BOUGHT, 5 is AWAY, 6 WAITS; minute 2. */
    static Objections ofEachSort() {
        Objections x = told("objector a grave 9 minutes 1;objector b grave 8 minutes 1 price 3;objector c grave 1 minutes 1;"
                + "objector d grave 1 minutes 1 stays 1;objector e grave 1 minutes 1 price 7;objector f grave 1 minutes 1 late;"
                + "objector g grave 1 minutes 1 price 5;settles b c;answer (grave=9)*100;");
        due("hear", x.hear(), 0);
        due("hear", x.hear(), 1);
        due("buy", x.buy(4), 7);
        is(x, 1, 2, 3, 4, 5, 6, 0);
        return x;
    }

    /** Seven OBJECTORS; this one is late, and brought by the one behind him (by the first one, if he is the last), who comes first and takes 5. */
    static String oneBrought(int late) {
        StringBuilder text = new StringBuilder();
        int bringer = (late + 1) % 7;
        for (int i = 0; i < 7; i++) {
            text.append("objector ").append((char) ('a' + i)).append(i == bringer ? " grave 9 minutes 5" : " grave 1 minutes 1");
            text.append(i == late ? " late;" : ";");
        }
        return text.append("brings ").append((char) ('a' + bringer)).append(' ').append((char) ('a' + late)).append(';').toString();
    }

    static void close(String name) {
        System.out.println(name + ": " + asked + " answers, " + wrong + " not as due");
        if (wrong != 0) {
            System.exit(1);
        }
    }
}
