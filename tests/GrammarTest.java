import java.io.IOException;
import java.nio.file.Files;
import java.nio.file.Path;
import java.util.ArrayList;
import java.util.Arrays;
import java.util.Comparator;
import java.util.HashMap;
import java.util.HashSet;
import java.util.List;
import java.util.Map;
import java.util.Random;
import java.util.Set;
import java.util.regex.Matcher;
import java.util.regex.Pattern;

/** FAULTS and units of texts told by chance (always the same ones), found once more by the document's own grammar. */
public final class GrammarTest {
    private static final Pattern TOKEN = Pattern.compile("([a-z]+)|([0-9]+)([a-z]?)|[;()<>=+\\-*/%]|.", Pattern.DOTALL);
    private static final Set<String> FACTS = Set.of("grave", "minutes", "waited", "number", "heard", "minute");
    private static final Map<String, int[]> AMOUNTS = Map.of("grave", new int[] {0, 99}, "minutes", new int[] {1, 60}, "stays", new int[] {0, 999},
            "price", new int[] {0, 99}, "bar", new int[] {1, 999}, "draw", new int[] {0, 999}, "joined", new int[] {1, 99});
    private static final Map<String, Integer> MOST = Map.of("objector", 7, "settles", 12, "brings", 6, "joined", 6, "order", 1, "answer", 1,
            "bar", 1, "draw", 1);

    /** What a byte or some stand for: a word that stands for itself, NAME, N, a sign, or "none" for no TOKEN. */
    private record Token(String sort, String text, int place) { }

    private record Fault(int place, int why) { }

    private final Grammar grammar;
    private final Set<String> own;

    private final String text;
    private final List<Token> tokens = new ArrayList<>();
    private final List<Fault> faults = new ArrayList<>();
    private final Map<String, Integer> lines = new HashMap<>();
    private final Set<String> names = new HashSet<>();
    private final Set<String> pairs = new HashSet<>();
    private int units = 0;

    private GrammarTest(Grammar grammar, Set<String> own, String text) {
        this.grammar = grammar;
        this.own = own;
        this.text = text;
    }

    public static void main(String[] args) throws IOException {
        int runs = args.length > 0 ? Integer.parseInt(args[0]) : 4000;
        int from = args.length > 1 ? Integer.parseInt(args[1]) : 0;
        Grammar grammar = new Grammar(Files.readString(Path.of("../shared/DOC.md")));
        Set<String> own = grammar.words();
        Crowd.at("the grammar");
        Crowd.due("rules", grammar.ruleCount(), 8);
        Crowd.due("words that stand for themselves", own.size(), 20);
        int[] met = new int[6];
        for (int i = from; i < from + runs; i++) {
            Weddings chance = new Weddings(new Random(i));
            met[new GrammarTest(grammar, own, i % 2 == 0 ? chance.text() : chance.knotted()).compare()]++;
        }
        Crowd.at("texts with each FAULT " + Arrays.toString(met));
        Crowd.due("each is met", Arrays.stream(met).allMatch(x -> x * 400 >= runs), true);
        Crowd.close("GrammarTest");
    }

    /** The FAULT that is due. */
    private int compare() {
        lex();
        int wrong = grammar.firstWrong(tokens.stream().map(Token::sort).toList());
        if (wrong < tokens.size()) {
            faults.add(new Fault(tokens.get(wrong).place(), tokens.get(wrong).sort().equals("none") ? 1 : 2));
        } else if (wrong == tokens.size()) {
            faults.add(new Fault(text.length(), 2));
        }
        List<Token> good = tokens.subList(0, Math.min(wrong, tokens.size()));
        for (int from = 0; from < good.size();) {
            int to = from;
            while (to < good.size() && !good.get(to).sort().equals(";")) to++;
            line(good.subList(from, to));
            from = to + 1;
        }
        Fault first = faults.stream().min(Comparator.comparingInt(Fault::place).thenComparingInt(Fault::why)).orElse(new Fault(-1, 0));
        Objections x = new Objections();
        Crowd.at(text.replace('\n', '|'));
        Crowd.due("wedding()", Crowd.wed(x, text), first.why() == 0 ? names.size() : -1);
        Crowd.due("fault(0)", x.fault(0), first.why());
        Crowd.due("fault(1)", x.fault(1), first.place());
        Crowd.due("about(13)", x.about(13), first.why() == 0 ? units : 0);
        return first.why();
    }

    private void lex() {
        Matcher token = TOKEN.matcher(text);
        int end = 0;
        while (token.find(end)) {
            boolean blank = token.group().equals(" ") || token.group().equals("\n");
            // a letter directly behind an N is looked at, but it is the next TOKEN's
            end = token.group(2) != null ? token.end(2) : token.end();
            if (!blank) tokens.add(new Token(sort(token), text.substring(token.start(), end), token.start()));
        }
    }

    private String sort(Matcher token) {
        String word = token.group(1);
        if (word != null) return word.length() > 8 ? "none" : own.contains(word) ? word : "NAME";
        if (token.group(2) != null) return token.group(2).length() > 4 || !token.group(3).isEmpty() ? "none" : "N";
        return ";()<>=+-*/%".contains(token.group()) ? token.group() : "none";
    }

    private void refuse(Token at, int why) {
        faults.add(new Fault(at.place(), why));
    }

    /** What the grammar does not tell of a line, or of as much of it as is there. */
    private void line(List<Token> line) {
        if (line.isEmpty()) return;
        Token head = line.get(0);
        if (lines.merge(head.sort(), 1, Integer::sum) > MOST.get(head.sort())) refuse(head, 2);
        if (head.sort().equals("order") || head.sort().equals("answer")) {
            formula(line);
            return;
        }
        for (int i = 1; i < line.size(); i++) {
            Token token = line.get(i);
            int[] bounds = AMOUNTS.get(head.sort().equals("objector") ? line.get(i - 1).text() : head.sort());
            if (token.sort().equals("N") && (Integer.parseInt(token.text()) < bounds[0] || Integer.parseInt(token.text()) > bounds[1])) {
                refuse(token, 4);
            }
            if (token.sort().equals("NAME") && head.sort().equals("objector") && !names.add(token.text())) refuse(token, 3);
            if (token.sort().equals("NAME") && !head.sort().equals("objector") && !names.contains(token.text())) refuse(token, 5);
        }
        if (line.size() > 2 && line.get(2).sort().equals("NAME")) two(head.sort(), line.get(1).text(), line.get(2));
    }

    private void two(String sort, String one, Token two) {
        String pair = sort + " " + one + " " + two.text();
        boolean known = pairs.contains(pair) || sort.equals("joined") && pairs.contains(sort + " " + two.text() + " " + one);
        if (known || one.equals(two.text())) refuse(two, 3);
        pairs.add(pair);
    }

    /** Each ( e ) and each one behind not that is open at a TOKEN is one that it is within. */
    private void formula(List<Token> line) {
        StringBuilder open = new StringBuilder();
        int here = 0;
        for (Token token : line.subList(1, line.size())) {
            String sort = token.sort();
            if (Set.of(")", "and", "or").contains(sort)) {
                while (open.length() > 0 && open.charAt(open.length() - 1) == '!') open.setLength(open.length() - 1);
            }
            if (sort.equals(")")) open.setLength(open.length() - 1);
            boolean unit = sort.equals("N") || sort.equals("(") || FACTS.contains(sort);
            if (unit) units++;
            if (unit && ++here > 30) refuse(token, 2);
            if (sort.equals("(") || sort.equals("not")) {
                if (open.length() > 6) refuse(token, 2);
                open.append(sort.equals("(") ? '(' : '!');
            }
        }
    }
}
