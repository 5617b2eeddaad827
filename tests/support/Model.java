import java.math.BigInteger;
import java.nio.ByteBuffer;
import java.util.ArrayDeque;
import java.util.ArrayList;
import java.util.Arrays;
import java.util.Comparator;
import java.util.Deque;
import java.util.HashMap;
import java.util.HashSet;
import java.util.List;
import java.util.Map;
import java.util.Set;
import java.util.function.IntPredicate;
import java.util.stream.Collectors;
import java.util.stream.IntStream;

/** The document once more, written without a thought for speed or room, to be compared with Objections. */
final class Model {
    enum Is { WAITS, ANSWERED, STANDS, WITHDREW, LEFT, BOUGHT, AWAY }

    record Person(int grave, int minutes, int stays, int price, boolean late) { }

    interface Sum { int of(Map<String, Integer> facts); }

    static final class Told {
        List<Person> people = new ArrayList<>();
        Set<List<Integer>> settles = new HashSet<>();
        Set<List<Integer>> brings = new HashSet<>();
        Map<Set<Integer>, Integer> joined = new HashMap<>();
        Sum order = facts -> facts.get("grave");
        Sum answer = facts -> 100;
        int bar = 100;
        int draw = 0;
        int units = 0;
    }

    static final class State {
        List<Is> is = new ArrayList<>();
        List<Integer> came = new ArrayList<>();
        List<Integer> numbers = new ArrayList<>();
        int minute;
        int spent;
        int seed;

        State copy() {
            State other = new State();
            other.is.addAll(is);
            other.came.addAll(came);
            other.numbers.addAll(numbers);
            other.minute = minute;
            other.spent = spent;
            other.seed = seed;
            return other;
        }
    }

    static final class Fault extends RuntimeException {
        final int why;
        final int place;

        Fault(int why, int place) {
            this.why = why;
            this.place = place;
        }
    }

    record Sight(int place, int who, boolean is, int told, int[] untold) { }

    private final List<Byte> tape = new ArrayList<>();
    private Told told = new Told();
    private State now = begin(told);
    private final Deque<State> past = new ArrayDeque<>();
    private final Deque<State> future = new ArrayDeque<>();
    private List<Integer> lying = new ArrayList<>();
    private final List<Sight> sights = new ArrayList<>();
    private int time = 0;
    private final State[] boxes = new State[3];
    private int faultWhy = 0;
    private int faultPlace = -1;

    static State begin(Told told) {
        State state = new State();
        for (int i = 0; i < told.people.size(); i++) {
            state.is.add(told.people.get(i).late() ? Is.AWAY : Is.WAITS);
            state.came.add(0);
            state.numbers.add(i);
        }
        state.seed = told.draw;
        return state;
    }

    // ---- what follows from a state

    Map<String, Integer> facts(Told by, State s, int who, int grave) {
        Map<String, Integer> facts = new HashMap<>();
        facts.put("grave", grave);
        facts.put("minutes", by.people.get(who).minutes());
        facts.put("waited", s.minute - s.came.get(who));
        facts.put("number", s.numbers.get(who));
        facts.put("heard", (int) s.is.stream().filter(x -> x == Is.ANSWERED || x == Is.STANDS).count());
        facts.put("minute", s.minute);
        return facts;
    }

    int order(Told by, State s, int who) {
        return by.order.of(facts(by, s, who, by.people.get(who).grave()));
    }

    int answer(State s, int who) {
        return told.answer.of(facts(told, s, who, told.people.get(who).grave()));
    }

    List<Integer> those(State s, Is what) {
        return IntStream.range(0, s.is.size()).filter(i -> s.is.get(i) == what).boxed().collect(Collectors.toList());
    }

    List<Integer> line(Told by, State s) {
        List<Integer> all = those(s, Is.WAITS);
        Map<Integer, Integer> orders = new HashMap<>();
        for (int i : all) orders.put(i, order(by, s, i));
        all.sort(Comparator.<Integer>comparingInt(i -> orders.get(i)).reversed().thenComparingInt(i -> s.numbers.get(i)));
        return all;
    }

    int leave(Told by, State s) {
        int many = 0;
        for (int i : those(s, Is.WAITS)) {
            if (s.minute - s.came.get(i) > by.people.get(i).stays()) {
                s.is.set(i, Is.LEFT);
                many++;
            }
        }
        return many;
    }

    void listen(Told by, State s, int who, boolean answered) {
        s.is.set(who, answered ? Is.ANSWERED : Is.STANDS);
        s.minute += by.people.get(who).minutes();
        for (int i : those(s, Is.WAITS)) {
            if (by.settles.contains(List.of(who, i))) s.is.set(i, Is.WITHDREW);
        }
        for (int i : those(s, Is.AWAY)) {
            if (by.brings.contains(List.of(who, i))) {
                s.is.set(i, Is.WAITS);
                s.came.set(i, s.minute);
            }
        }
        leave(by, s);
    }

    record Ahead(List<Integer> who, List<Integer> begun, State end) { }

    Ahead ahead(Told by, State from) {
        State s = from.copy();
        List<Integer> who = new ArrayList<>();
        List<Integer> begun = new ArrayList<>();
        while (!those(s, Is.WAITS).isEmpty()) {
            int turn = line(by, s).get(0);
            who.add(turn);
            begun.add(s.minute);
            listen(by, s, turn, true);
        }
        return new Ahead(who, begun, s);
    }

    int duskOf(State s) {
        return ahead(told, s).end().minute;
    }

    static int bits(List<Integer> some) {
        return some.stream().mapToInt(i -> 1 << i).sum();
    }

    static List<Integer> set(int bits) {
        List<Integer> some = new ArrayList<>();
        for (int i = 0; i < 32; i++) if ((bits >>> i & 1) == 1) some.add(i);
        return some;
    }

    boolean exists(int who) {
        return who >= 0 && who < told.people.size();
    }

    boolean waits(int who) {
        return exists(who) && now.is.get(who) == Is.WAITS;
    }

    // ---- the face

    int feed(int... five) {
        if (tape.size() > 1580) return -1;
        for (int v : five) for (byte b : ByteBuffer.allocate(4).putInt(v).array()) tape.add(b);
        return tape.size();
    }

    int end(int n) {
        if (n < 0 || n > tape.size()) return -1;
        tape.subList(n, tape.size()).clear();
        return n;
    }

    int wedding() {
        StringBuilder text = new StringBuilder();
        for (byte b : tape) text.append((char) (b & 255));
        tape.clear();
        faultWhy = 0;
        faultPlace = -1;
        try {
            told = new Parser(text.toString()).parse();
        } catch (Fault f) {
            faultWhy = f.why;
            faultPlace = f.place;
            return -1;
        }
        now = begin(told);
        past.clear();
        future.clear();
        lying = new ArrayList<>();
        sights.clear();
        Arrays.fill(boxes, null);
        return told.people.size();
    }

    int fault(int what) {
        return what == 0 ? faultWhy : what == 1 ? faultPlace : -1;
    }

    int objector(int o, int what) {
        if (!exists(o) || what < 0 || what > 7) return -2;
        Person p = told.people.get(o);
        Set<List<Integer>> pairs = what == 6 ? told.settles : told.brings;
        int whom = pairs.stream().filter(x -> x.get(0) == o).mapToInt(x -> 1 << x.get(1)).sum();
        return List.of(now.is.get(o).ordinal(), p.grave(), p.minutes(), now.numbers.get(o),
                waits(o) ? now.minute - now.came.get(o) : 0, p.price(), whom, whom).get(what);
    }

    int ranks(int o) {
        return waits(o) ? order(told, now, o) : -1000000000;
    }

    private void act() {
        past.addLast(now.copy());
        if (past.size() > 40) past.removeFirst();
        future.clear();
    }

    int hear() {
        if (next() < 0) return -1;
        act();
        int who = next();
        int sure = answer(now, who);
        now.seed = (now.seed * 137 + 71) % 1000;
        listen(told, now, who, now.seed % 100 < sure);
        return who;
    }

    int buy(int o) {
        if (!waits(o)) return -1;
        act();
        now.is.set(o, Is.BOUGHT);
        now.spent += told.people.get(o).price();
        return now.spent;
    }

    int pause(int minutes) {
        if (minutes < 1 || minutes > 60) return -1;
        act();
        now.minute += minutes;
        return leave(told, now);
    }

    int trade(int a, int b) {
        if (a == b || !waits(a) || !waits(b)) return -1;
        act();
        int kept = now.numbers.get(a);
        now.numbers.set(a, now.numbers.get(b));
        now.numbers.set(b, kept);
        return now.numbers.get(a);
    }

    boolean undo() {
        if (past.isEmpty()) return false;
        future.addLast(now);
        now = past.removeLast();
        return true;
    }

    boolean redo() {
        if (future.isEmpty()) return false;
        past.addLast(now);
        now = future.removeLast();
        return true;
    }

    int next() {
        List<Integer> line = line(told, now);
        return line.isEmpty() ? -1 : line.get(0);
    }

    int queue() {
        lying = line(told, now);
        return lying.size();
    }

    int dusk() {
        return duskOf(now);
    }

    int when(int o) {
        Ahead a = ahead(told, now);
        int at = a.who().indexOf(o);
        return at < 0 ? -1 : a.begun().get(at);
    }

    int course() {
        lying = ahead(told, now).who();
        return lying.size();
    }

    int leavers() {
        List<Integer> left = those(ahead(told, now).end(), Is.LEFT);
        left.retainAll(those(now, Is.WAITS));
        return bits(left);
    }

    private int soonMinute;
    private List<Integer> soonRow;

    private void tryRows(State s, List<Integer> row) {
        List<Integer> all = those(s, Is.WAITS);
        if (all.isEmpty() && (soonRow == null || s.minute < soonMinute)) {
            soonMinute = s.minute;
            soonRow = new ArrayList<>(row);
        }
        for (int i : all) {
            State then = s.copy();
            listen(told, then, i, true);
            row.add(i);
            tryRows(then, row);
            row.remove(row.size() - 1);
        }
    }

    int soonest() {
        soonRow = null;
        tryRows(now, new ArrayList<>());
        lying = soonRow;
        return soonMinute;
    }

    int first(int what) {
        List<int[]> all = new ArrayList<>();
        for (int i : those(now, Is.WAITS)) {
            State s = now.copy();
            listen(told, s, i, true);
            all.add(new int[] {i, duskOf(s)});
        }
        if (all.isEmpty() || what < 0 || what > 1) return -1;
        all.sort(Comparator.<int[]>comparingInt(x -> x[1]).thenComparingInt(x -> x[0]));
        return all.get(0)[what];
    }

    int price(int bits) {
        return set(bits).stream().mapToInt(i -> told.people.get(i).price()).sum();
    }

    List<Integer> subsets() {
        int all = bits(those(now, Is.WAITS));
        return IntStream.range(0, 128).filter(x -> (x | all) == all).boxed().collect(Collectors.toList());
    }

    int duskBought(int bits) {
        State s = now.copy();
        for (int i : set(bits)) s.is.set(i, Is.BOUGHT);
        return duskOf(s);
    }

    int purchase(int minute, int what) {
        if (minute < 0 || minute > 9999 || what < 0 || what > 1) return -1;
        return subsets().stream().filter(x -> duskBought(x) <= minute)
                .min(Comparator.<Integer>comparingInt(this::price).thenComparingInt(Integer::bitCount).thenComparingInt(x -> x))
                .map(x -> what == 0 ? price(x) : x).orElse(-1);
    }

    int boast(int o) {
        if (!waits(o)) return -1;
        Told kept = told;
        int least = -1;
        for (int g = 99; g >= 0; g--) {
            told = graver(kept, o, g);
            if (next() == o) least = g;
        }
        told = kept;
        return least;
    }

    static Told graver(Told from, int who, int grave) {
        Told other = new Told();
        other.people.addAll(from.people);
        Person p = from.people.get(who);
        other.people.set(who, new Person(grave, p.minutes(), p.stays(), p.price(), p.late()));
        other.settles = from.settles;
        other.brings = from.brings;
        other.joined = from.joined;
        other.order = from.order;
        other.answer = from.answer;
        return other;
    }

    int weigh(List<Integer> some) {
        int sum = some.stream().mapToInt(i -> told.people.get(i).grave()).sum();
        for (Map.Entry<Set<Integer>, Integer> e : told.joined.entrySet()) if (some.containsAll(e.getKey())) sum += e.getValue();
        return sum;
    }

    int weight() {
        return weigh(those(now, Is.STANDS));
    }

    boolean barredWith(int bits) {
        List<Integer> some = those(now, Is.STANDS);
        some.addAll(set(bits));
        return weigh(some) >= told.bar;
    }

    int threat(int what) {
        if (what < 0 || what > 1) return -1;
        return subsets().stream().filter(this::barredWith)
                .min(Comparator.<Integer>comparingInt(Integer::bitCount).thenComparingInt(x -> x))
                .map(x -> what == 0 ? Integer.bitCount(x) : x).orElse(-1);
    }

    int bars() {
        return (int) subsets().stream().filter(this::barredWith).count();
    }

    int gain(int o) {
        return waits(o) ? dusk() - duskBought(1 << o) : -1000000000;
    }

    int crowd(int o) {
        if (!exists(o)) return -1;
        Set<Integer> some = new HashSet<>(Set.of(o));
        while (true) {
            Set<Integer> more = new HashSet<>(some);
            for (List<Integer> b : told.brings) if (some.contains(b.get(0))) more.add(b.get(1));
            if (more.size() == some.size()) return bits(new ArrayList<>(some));
            some = more;
        }
    }

    int drawn(int bits, int part, IntPredicate counts) {
        if (!set(bits).stream().allMatch(this::waits) || set(bits).size() > 4 || part < 0 || part > 1) return -1;
        BigInteger upper = BigInteger.ZERO;
        for (int open = 0; open < 128; open++) {
            if ((open & ~bits) != 0 || !counts.test(open)) continue;
            BigInteger product = BigInteger.ONE;
            for (int i : set(bits)) {
                int chance = Math.max(0, Math.min(100, answer(now, i)));
                product = product.multiply(BigInteger.valueOf((open >> i & 1) == 1 ? 100 - chance : chance));
            }
            upper = upper.add(product);
        }
        BigInteger lower = BigInteger.valueOf(100).pow(set(bits).size());
        BigInteger common = upper.gcd(lower);
        return (part == 0 ? upper : lower).divide(common).intValueExact();
    }

    int odds(int bits, int part) {
        return drawn(bits, part, open -> open == 0);
    }

    int peril(int bits, int part) {
        return drawn(bits, part, this::barredWith);
    }

    int tarry(int what) {
        if (what < 0 || what > 1) return -1;
        int[] best = null;
        for (int m = 60; m >= 0; m--) {
            State s = now.copy();
            s.minute += m;
            leave(told, s);
            int dusk = duskOf(s);
            if (best == null || dusk <= best[1]) best = new int[] {m, dusk};
        }
        return best[what];
    }

    int swap(int what) {
        if (what < 0 || what > 2) return -1;
        int[] best = {-1, -1, dusk()};
        for (int i : those(now, Is.WAITS)) for (int j : those(now, Is.WAITS)) {
            if (i >= j) continue;
            State s = now.copy();
            s.numbers.set(i, now.numbers.get(j));
            s.numbers.set(j, now.numbers.get(i));
            if (duskOf(s) < best[2]) best = new int[] {i, j, duskOf(s)};
        }
        return best[0] < 0 ? -1 : best[what];
    }

    int by(int n) {
        if (n < 0 || n > 9999) return -1;
        return (int) ahead(told, now).begun().stream().filter(m -> m <= n).count();
    }

    int upset() {
        List<Integer> who = ahead(told, now).who();
        return (int) IntStream.range(0, Math.max(0, who.size() - 1)).filter(i ->
                told.people.get(who.get(i)).grave() < told.people.get(who.get(i + 1)).grave()).count();
    }

    int lies(int i) {
        return i >= 0 && i < lying.size() ? lying.get(i) : -1;
    }

    int seen(int place, int o, boolean is) {
        if (place < 1 || place > 7 || !exists(o) || sights.size() == 30) return -1;
        sights.add(new Sight(place, o, is, time, new int[] {Integer.MAX_VALUE}));
        return sights.size() - 1;
    }

    boolean untell(int n) {
        if (n < 0 || n >= sights.size() || sights.get(n).untold()[0] != Integer.MAX_VALUE) return false;
        sights.get(n).untold()[0] = time;
        return true;
    }

    int later(int by) {
        if (by < 0 || by > 1000 || time + by > 100000) return -1;
        time += by;
        return time;
    }

    Map<Integer, List<Integer>> fitting(int k) {
        Map<Integer, List<Integer>> rows = new java.util.TreeMap<>();
        for (int g = 0; g < 100 && !told.people.isEmpty(); g++) {
            Told other = graver(told, told.people.size() - 1, g);
            List<Integer> row = ahead(other, begin(other)).who();
            boolean fits = true;
            for (Sight s : sights) {
                if (s.told() > k || s.untold()[0] <= k && s.untold()[0] != Integer.MAX_VALUE) continue;
                boolean was = s.place() <= row.size() && row.get(s.place() - 1) == s.who();
                fits &= was == s.is();
            }
            if (fits) rows.put(g, row);
        }
        return rows;
    }

    int fits(int k) {
        return fitting(k).size();
    }

    int sure(int what, int k) {
        List<Integer> all = new ArrayList<>(fitting(k).keySet());
        if (all.isEmpty() || what < 0 || what > 1) return -1;
        return what == 0 ? all.get(0) : all.get(all.size() - 1);
    }

    int ask(int what, int k) {
        Map<Integer, List<Integer>> all = fitting(k);
        if (all.isEmpty() || what < 0 || what > 1) return -1;
        int[] best = {0, Integer.MAX_VALUE};
        for (int p = 1; p <= 7; p++) {
            Map<Integer, Integer> left = new HashMap<>();
            for (List<Integer> row : all.values()) left.merge(p <= row.size() ? row.get(p - 1) : -1, 1, Integer::sum);
            int most = left.values().stream().max(Integer::compare).get();
            if (most < best[1]) best = new int[] {p, most};
        }
        return best[what];
    }

    int image(int box) {
        if (box < 0 || box > 2) return -1;
        boxes[box] = now.copy();
        return now.minute;
    }

    int back(int box) {
        if (box < 0 || box > 2 || boxes[box] == null) return -1;
        now = boxes[box].copy();
        past.clear();
        future.clear();
        return now.minute;
    }

    int about(int what) {
        if (what < 0 || what > 14) return -1;
        return List.of(told.people.size(), now.minute, now.seed, now.spent, told.bar, barredWith(0) ? 1 : 0,
                bits(those(now, Is.WAITS)), bits(those(now, Is.STANDS)), past.size(), future.size(), sights.size(), time,
                tape.size(), told.units, lying.size()).get(what);
    }

    // ---- the text

    record Token(String text, int place) { }

    private static final class Parser {
        private static final Set<String> OWN = Set.of("objector", "grave", "minutes", "stays", "price", "late", "settles",
                "brings", "joined", "order", "answer", "bar", "draw", "or", "and", "not", "waited", "number", "heard", "minute");
        private final String text;
        private int at = 0;
        private Token token;
        private final Told into = new Told();
        private final List<String> names = new ArrayList<>();
        private final Set<String> once = new HashSet<>();
        private int unitsHere;

        Parser(String text) {
            this.text = text;
        }

        static boolean letter(char c) {
            return c >= 'a' && c <= 'z';
        }

        static boolean digit(char c) {
            return c >= '0' && c <= '9';
        }

        /** The next TOKEN: "" at the end, null if it is none. */
        void go() {
            while (at < text.length() && (text.charAt(at) == ' ' || text.charAt(at) == '\n')) at++;
            int from = at;
            if (at == text.length()) {
                token = new Token("", at);
                return;
            }
            String rest = text.substring(at);
            int letters = (int) rest.chars().takeWhile(c -> letter((char) c)).count();
            int digits = (int) rest.chars().takeWhile(c -> digit((char) c)).count();
            int size = Math.max(letters, digits);
            boolean good = letters <= 8 && digits <= 4;
            if (digits > 0 && digits < rest.length() && letter(rest.charAt(digits))) good = false;
            if (size == 0) {
                size = 1;
                good = ";()<>=+-*/%".indexOf(rest.charAt(0)) >= 0;
            }
            at += size;
            token = new Token(good ? rest.substring(0, size) : null, from);
        }

        Fault wrong(int why) {
            return new Fault(token.text() == null ? 1 : why, token.place());
        }

        boolean is(String what) {
            return what.equals(token.text());
        }

        void must(String what) {
            if (!is(what)) throw wrong(2);
            go();
        }

        int number(int least, int most) {
            if (token.text() == null || token.text().isEmpty() || !digit(token.text().charAt(0))) throw wrong(2);
            int n = Integer.parseInt(token.text());
            if (n < least || n > most) throw wrong(4);
            go();
            return n;
        }

        String name() {
            if (token.text() == null || token.text().isEmpty() || !letter(token.text().charAt(0)) || OWN.contains(token.text())) throw wrong(2);
            return token.text();
        }

        int known() {
            int who = names.indexOf(name());
            if (who < 0) throw wrong(5);
            return who;
        }

        Told parse() {
            go();
            while (!is("")) {
                String word = token.text() == null ? "" : token.text();
                switch (word) {
                    case "objector" -> objector();
                    case "settles" -> pair(into.settles, 12);
                    case "brings" -> pair(into.brings, 6);
                    case "joined" -> joined();
                    case "order", "answer", "bar", "draw" -> onceOnly(word);
                    default -> throw wrong(2);
                }
                must(";");
            }
            return into;
        }

        void objector() {
            if (into.people.size() == 7) throw wrong(2);
            go();
            String name = name();
            if (names.contains(name)) throw wrong(3);
            go();
            must("grave");
            int grave = number(0, 99);
            must("minutes");
            int minutes = number(1, 60);
            int stays = 999;
            int price = 0;
            boolean late = false;
            if (is("stays")) {
                go();
                stays = number(0, 999);
            }
            if (is("price")) {
                go();
                price = number(0, 99);
            }
            if (is("late")) {
                go();
                late = true;
            }
            names.add(name);
            into.people.add(new Person(grave, minutes, stays, price, late));
        }

        void pair(Set<List<Integer>> pairs, int most) {
            if (pairs.size() == most) throw wrong(2);
            go();
            int one = known();
            go();
            int two = known();
            if (one == two || !pairs.add(List.of(one, two))) throw wrong(3);
            go();
        }

        void joined() {
            if (into.joined.size() == 6) throw wrong(2);
            go();
            int one = known();
            go();
            int two = known();
            if (one == two || into.joined.containsKey(Set.of(one, two))) throw wrong(3);
            go();
            into.joined.put(Set.of(one, two), number(1, 99));
        }

        void onceOnly(String word) {
            if (!once.add(word)) throw wrong(2);
            go();
            unitsHere = 0;
            switch (word) {
                case "bar" -> into.bar = number(1, 999);
                case "draw" -> into.draw = number(0, 999);
                case "order" -> into.order = either(0);
                default -> into.answer = either(0);
            }
        }

        Sum either(int in) {
            Sum left = both(in);
            while (is("or")) {
                go();
                Sum a = left;
                Sum b = both(in);
                left = f -> a.of(f) != 0 | b.of(f) != 0 ? 1 : 0;
            }
            return left;
        }

        Sum both(int in) {
            Sum left = one(in);
            while (is("and")) {
                go();
                Sum a = left;
                Sum b = one(in);
                left = f -> a.of(f) != 0 & b.of(f) != 0 ? 1 : 0;
            }
            return left;
        }

        Sum one(int in) {
            if (is("not")) {
                if (in >= 7) throw wrong(2);
                go();
                Sum a = one(in + 1);
                return f -> a.of(f) == 0 ? 1 : 0;
            }
            Sum a = sum(in);
            if (is("<") || is(">") || is("=")) {
                String how = token.text();
                go();
                Sum b = sum(in);
                return f -> {
                    int c = Integer.compare(a.of(f), b.of(f));
                    return (how.equals("<") ? c < 0 : how.equals(">") ? c > 0 : c == 0) ? 1 : 0;
                };
            }
            return a;
        }

        Sum sum(int in) {
            Sum left = term(in);
            while (is("+") || is("-")) {
                int sign = is("+") ? 1 : -1;
                go();
                Sum a = left;
                Sum b = term(in);
                left = f -> a.of(f) + sign * b.of(f);
            }
            return left;
        }

        Sum term(int in) {
            Sum left = unit(in);
            while (is("*") || is("/") || is("%")) {
                String how = token.text();
                go();
                Sum a = left;
                Sum b = unit(in);
                left = f -> {
                    long x = a.of(f);
                    long y = b.of(f);
                    return (int) (how.equals("*") ? x * y : y == 0 ? 0 : how.equals("/") ? x / y : x % y);
                };
            }
            return left;
        }

        Sum unit(int in) {
            String word = token.text() == null ? "" : token.text();
            boolean fact = Set.of("grave", "minutes", "waited", "number", "heard", "minute").contains(word);
            boolean n = !word.isEmpty() && digit(word.charAt(0));
            if (!fact && !n && !word.equals("(") || ++unitsHere > 30) throw wrong(2);
            if (word.equals("(") && in >= 7) throw wrong(2);
            into.units++;
            go();
            if (fact) return f -> f.get(word);
            if (n) return f -> Integer.parseInt(word);
            Sum inner = either(in + 1);
            must(")");
            return inner;
        }
    }
}
