import java.util.ArrayList;
import java.util.List;
import java.util.Random;

/** Texts told by chance, but the same ones for the same seed: most without a FAULT. */
final class Weddings {
    private static final String[] NAMES = {"ann", "bob", "cat", "dan", "eve", "fay", "gil", "hal", "a", "lateness"};
    private static final String[] FACTS = {"grave", "minutes", "waited", "number", "heard", "minute"};
    private static final String[] STRAY = {";", "(", ")", "<", ">", "=", "+", "-", "*", "/", "%", "order", "answer", "bar 5;", "draw 7;",
        "not ", "and ", "or ", "zed", "ninelongw", "12345", "12a", "$", "\n", " ", "0", "99", "100", "1000", "late", "stays", "price", "joined",
        "brings", "settles", "objector", "grave", "minutes", "minute", "A", "\t", "\u00e9", "\0", "waited", "heard", "number"};
    private static final int[] BOUNDS = {0, 1, 60, 61, 99, 100, 999, 1000};
    private final Random chance;
    private int units;

    Weddings(Random chance) {
        this.chance = chance;
    }

    private int upTo(int most) {
        return chance.nextInt(most + 1);
    }

    private boolean seldom(int of) {
        return chance.nextInt(of) == 0;
    }

    String text() {
        List<String> lines = new ArrayList<>();
        int people = seldom(12) ? upTo(8) : 2 + upTo(5);
        int gravest = seldom(3) ? 5 : 99;
        boolean hasty = seldom(2);
        for (int i = 0; i < people; i++) {
            StringBuilder line = new StringBuilder("objector " + NAMES[i] + " grave " + upTo(gravest) + " minutes " + (1 + upTo(hasty ? 9 : 59)));
            if (seldom(2)) line.append(" stays ").append(seldom(10) ? upTo(999) : upTo(hasty ? 30 : 120));
            if (seldom(2)) line.append(" price ").append(seldom(3) ? upTo(3) : upTo(99));
            if (seldom(4)) line.append(" late");
            lines.add(line.append(";").toString());
        }
        int asked = upTo(people);
        pairs(lines, "settles", people, seldom(10) ? 14 : asked, "");
        pairs(lines, "brings", people, seldom(10) ? 8 : upTo(5), "");
        pairs(lines, "joined", people, seldom(10) ? 8 : upTo(4), " ");
        if (!seldom(3)) lines.add("order " + formula() + ";");
        if (!seldom(3)) lines.add("answer " + (seldom(2) ? upTo(100) + "-" + formula() : formula()) + ";");
        if (!seldom(3)) lines.add("bar " + (1 + (seldom(2) ? upTo(60) : upTo(400))) + ";");
        if (!seldom(3)) lines.add("draw " + upTo(999) + ";");
        String text = String.join(seldom(4) ? "\n" : "", lines);
        if (seldom(5)) text = spoilt(text);
        return text.length() > 1600 ? text.substring(0, 1600) : text;
    }

    /** One in which it matters when each one came: most are brought, and few stay long. */
    String comings() {
        List<String> lines = new ArrayList<>();
        int people = 5 + upTo(2);
        for (int i = 0; i < people; i++) {
            lines.add("objector " + NAMES[i] + " grave " + upTo(9) + " minutes " + (1 + upTo(8)) + " stays " + (3 + upTo(22)) + (i > 1 ? " late;" : ";"));
        }
        pairs(lines, "brings", people, 12, "");
        while (lines.stream().filter(x -> x.startsWith("brings")).count() > 6) lines.remove(lines.size() - 1);
        pairs(lines, "settles", people, upTo(5), "");
        return String.join("", lines);
    }

    /** One at the limits: many of each sort, and formulas long and deep; half of them with a word changed. */
    String knotted() {
        List<String> lines = new ArrayList<>();
        int people = 4 + upTo(4);
        for (int i = 0; i < people; i++) {
            lines.add("objector " + NAMES[i] + " grave " + upTo(99) + " minutes " + (1 + upTo(59)) + (seldom(3) ? " stays " + upTo(999) : "")
                    + (seldom(3) ? " price " + upTo(99) : "") + (seldom(3) ? " late;" : ";"));
        }
        pairs(lines, "settles", people, seldom(4) ? 40 : upTo(4), "");
        pairs(lines, "brings", people, seldom(4) ? 12 : upTo(4), "");
        pairs(lines, "joined", people, seldom(4) ? 12 : upTo(4), " ");
        for (String sort : new String[] {"order ", "answer "}) {
            units = seldom(3) ? 28 + upTo(5) : 1 + upTo(20);
            int more = seldom(3) ? upTo(8) : 0;
            String formula = either(upTo(7));
            lines.add(sort + (seldom(2) ? "not ".repeat(more) + formula : "(".repeat(more) + formula + ")".repeat(more)) + ";");
        }
        String text = String.join("", lines);
        if (seldom(2)) {
            String[] words = text.split("(?=[ ;])");
            int at = chance.nextInt(words.length);
            boolean isNumber = words[at].matches(" [0-9]+");
            words[at] = " " + (isNumber ? BOUNDS[chance.nextInt(BOUNDS.length)] : STRAY[chance.nextInt(STRAY.length)]);
            text = String.join("", words);
        }
        return text.length() > 1600 ? text.substring(0, 1600) : text;
    }

    private void pairs(List<String> lines, String sort, int people, int many, String behind) {
        List<String> known = new ArrayList<>();
        for (int i = 0; i < many && people > 1; i++) {
            int one = chance.nextInt(people);
            int two = chance.nextInt(people);
            String pair = one + " " + two;
            boolean fresh = one != two && !known.contains(pair) && (behind.isEmpty() || !known.contains(two + " " + one));
            if (!fresh && !seldom(60)) continue;
            known.add(pair);
            lines.add(sort + " " + NAMES[one] + " " + NAMES[two] + (behind.isEmpty() ? "" : behind + (1 + upTo(98))) + ";");
        }
    }

    String formula() {
        units = seldom(20) ? 34 : 1 + upTo(12);
        String all = either(upTo(4));
        while (units > 0 && seldom(3)) all = all + (seldom(2) ? "+" : "*") + either(2);
        return all;
    }

    private String either(int deep) {
        String all = both(deep);
        while (units > 0 && seldom(7)) all = all + " or " + both(deep);
        return all;
    }

    private String both(int deep) {
        String all = one(deep);
        while (units > 0 && seldom(7)) all = all + " and " + one(deep);
        return all;
    }

    private String one(int deep) {
        if (seldom(9)) return "not " + one(deep - 1);
        String all = sum(deep);
        return units > 0 && seldom(4) ? all + "<>=".charAt(upTo(2)) + sum(deep) : all;
    }

    private String sum(int deep) {
        String all = term(deep);
        while (units > 0 && seldom(2)) all = all + "+-".charAt(upTo(1)) + term(deep);
        return all;
    }

    private String term(int deep) {
        String all = unit(deep);
        while (units > 0 && seldom(3)) all = all + "*/%".charAt(upTo(2)) + unit(deep);
        return all;
    }

    private String unit(int deep) {
        units--;
        if (deep > 0 && seldom(3) || seldom(25)) return "(" + either(deep - 1) + ")";
        return seldom(3) ? "" + upTo(seldom(4) ? 9999 : 12) : FACTS[upTo(5)];
    }

    private String spoilt(String text) {
        StringBuilder all = new StringBuilder(text);
        for (int i = upTo(2); i >= 0 && all.length() > 0; i--) {
            int at = chance.nextInt(all.length());
            switch (upTo(4)) {
                case 0 -> all.deleteCharAt(at);
                case 1 -> all.insert(at, STRAY[chance.nextInt(STRAY.length)]);
                case 2 -> all.setCharAt(at, STRAY[chance.nextInt(STRAY.length)].charAt(0));
                case 3 -> all.setLength(at);
                default -> all.append(STRAY[chance.nextInt(STRAY.length)]);
            }
        }
        return all.toString();
    }
}
