import java.util.ArrayDeque;
import java.util.ArrayList;
import java.util.Deque;
import java.util.HashMap;
import java.util.HashSet;
import java.util.List;
import java.util.Map;
import java.util.Set;
import java.util.regex.Matcher;
import java.util.regex.Pattern;

/**
 * The grammar read from the document itself, and which TOKEN of a row is the first that can't stand there by it alone
 * (Earley's way: all that could still come of the row is kept, nothing is tried and taken back).
 */
final class Grammar {
    private static final Pattern RULES = Pattern.compile("wedding = \\{line\\}\\.|(?m)^  (line|e) = .*\\.$");
    private static final String OPENING = "[{(";
    private static final String CLOSING = "]})";

    /** How far a rule has come that began at a TOKEN. */
    private record Item(String rule, List<String> parts, int at, int begun) {
        String awaited() {
            return at < parts.size() ? parts.get(at) : "";
        }

        Item on() {
            return new Item(rule, parts, at + 1, begun);
        }
    }

    private final Map<String, List<List<String>>> rules = new HashMap<>();
    private int groups = 0;

    Grammar(String document) {
        Matcher told = RULES.matcher(document);
        while (told.find()) {
            add(told.group().trim().split("\\s+"));
        }
    }

    /** The words that stand for themselves. */
    Set<String> words() {
        Set<String> words = new HashSet<>();
        rules.values().forEach(ways -> ways.forEach(words::addAll));
        words.removeIf(w -> rules.containsKey(w) || !w.matches("[a-z]+"));
        return words;
    }

    int ruleCount() {
        return rules.size() - groups;
    }

    private void add(String[] words) {
        int begun = 0;
        for (int i = 1; i <= words.length; i++) {
            // a rule ends where a word with a stop is followed by the next one's head, or by nothing
            boolean ends = i == words.length || i + 1 < words.length && words[i + 1].equals("=") && words[i - 1].endsWith(".");
            if (ends) {
                Deque<String> signs = new ArrayDeque<>();
                for (int k = begun + 2; k < i; k++) {
                    part(signs, k == i - 1 ? words[k].substring(0, words[k].length() - 1) : words[k]);
                }
                rules.put(words[begun], ways(signs));
                begun = i;
            }
        }
    }

    /** A bracket that stands alone is a sign of the text; one at a word belongs to the grammar, and gets a # here. */
    private static void part(Deque<String> signs, String word) {
        if (word.length() == 1) {
            signs.add(word);
            return;
        }
        int from = 0;
        int to = word.length();
        while (to - from > 1 && OPENING.indexOf(word.charAt(from)) >= 0) from++;
        while (to - from > 1 && CLOSING.indexOf(word.charAt(to - 1)) >= 0) to--;
        for (int i = 0; i < from; i++) signs.add("#" + word.charAt(i));
        signs.add(word.substring(from, to));
        for (int i = to; i < word.length(); i++) signs.add("#" + word.charAt(i));
    }

    private List<List<String>> ways(Deque<String> signs) {
        List<List<String>> ways = new ArrayList<>();
        ways.add(new ArrayList<>());
        while (!signs.isEmpty()) {
            String sign = signs.remove();
            boolean marks = sign.length() == 2 && sign.charAt(0) == '#';
            if (marks && CLOSING.indexOf(sign.charAt(1)) >= 0) {
                return ways;
            } else if (sign.equals("|")) {
                ways.add(new ArrayList<>());
            } else {
                ways.get(ways.size() - 1).add(marks ? group(sign.charAt(1), signs) : sign);
            }
        }
        return ways;
    }

    private String group(char opened, Deque<String> signs) {
        groups++;
        String name = "group " + groups;
        List<List<String>> ways = ways(signs);
        if (opened == '{') {
            ways.forEach(way -> way.add(0, name));
        }
        if (opened != '(') {
            ways.add(List.of());
        }
        rules.put(name, ways);
        return name;
    }

    /** The first of these that can't stand where it does; so many as there are, if all can and the text may end there. */
    int firstWrong(List<String> signs) {
        List<Set<Item>> all = new ArrayList<>();
        Set<Item> here = new HashSet<>();
        rules.get("wedding").forEach(way -> here.add(new Item("wedding", way, 0, 0)));
        all.add(here);
        complete(all);
        for (int i = 0; i < signs.size(); i++) {
            Set<Item> next = new HashSet<>();
            for (Item item : all.get(i)) {
                if (item.awaited().equals(signs.get(i))) next.add(item.on());
            }
            if (next.isEmpty()) return i;
            all.add(next);
            complete(all);
        }
        boolean canEnd = all.get(signs.size()).stream().anyMatch(x -> x.rule().equals("wedding") && x.awaited().isEmpty());
        return canEnd ? signs.size() + 1 : signs.size();
    }

    private void complete(List<Set<Item>> all) {
        int now = all.size() - 1;
        Set<Item> here = all.get(now);
        for (int before = 0; before != here.size();) {
            before = here.size();
            for (Item item : new ArrayList<>(here)) {
                String awaited = item.awaited();
                if (awaited.isEmpty()) {
                    for (Item outer : new ArrayList<>(all.get(item.begun()))) {
                        if (outer.awaited().equals(item.rule())) here.add(outer.on());
                    }
                } else if (rules.containsKey(awaited)) {
                    for (List<String> way : rules.get(awaited)) here.add(new Item(awaited, way, 0, now));
                }
            }
        }
    }
}
