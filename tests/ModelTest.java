import java.util.Random;

/** Runs of calls by chance (always the same ones), each answer compared with the Model's. */
public final class ModelTest {
    private static final String[] CALLS = {"feed", "end", "wedding", "fault", "objector", "ranks", "hear", "buy", "pause", "trade", "undo",
        "redo", "next", "queue", "dusk", "when", "course", "leavers", "soonest", "first", "purchase", "boast", "weight", "threat", "bars",
        "gain", "crowd", "odds", "peril", "tarry", "swap", "by", "upset", "lies", "seen", "untell", "later", "fits", "sure", "ask", "image",
        "back", "about"};
    private static final String[] DEEDS = {"pause", "hear", "hear", "buy", "trade", "trade", "undo", "redo", "redo", "image", "back"};
    private static int gone = 0;
    private static int wrong = 0;

    private final Random chance;
    private final Objections real = new Objections();
    private final Model model = new Model();
    private final StringBuilder story = new StringBuilder();

    private ModelTest(long seed) {
        chance = new Random(seed);
    }

    public static void main(String[] args) {
        int runs = args.length > 0 ? Integer.parseInt(args[0]) : 1500;
        int from = args.length > 1 ? Integer.parseInt(args[1]) : 0;
        for (int i = from; i < from + runs && wrong < 5; i++) {
            new ModelTest(i).run();
        }
        for (int i = from; i < from + 4 * runs && wrong < 5; i++) {
            new ModelTest(i).soonest();
        }
        for (int i = from; i < from + runs && wrong < 5; i++) {
            new ModelTest(i).deeds();
        }
        if (gone < runs && wrong == 0) {
            wrong++;
            System.out.println("too few ACTS came when 40 were kept: " + gone);
        }
        System.out.println(wrong == 0 ? runs + " runs are as the model's" : wrong + " runs differ from the model's");
        if (wrong != 0) System.exit(1);
    }

    private void run() {
        int left = 512;
        int often = 20 + chance.nextInt(150);
        left -= tell(new Weddings(chance).text());
        for (int i = 0; left > 0; i++) {
            if (i % often == often - 1 && left > 100) left -= tell(new Weddings(chance).text());
            left--;
            if (!call(CALLS[chance.nextInt(CALLS.length)])) {
                wrong++;
                System.out.println(story);
                return;
            }
        }
    }

    private void soonest() {
        tell(new Weddings(chance).comings());
        for (int i = 0; i < 3; i++) {
            if (!call("soonest") || !call("hear")) {
                wrong++;
                System.out.println(story);
                return;
            }
        }
    }

    /** Mostly ACTS, more than are kept, then mostly UNDO, as often; and a look at what is so behind each. */
    private void deeds() {
        int left = 510 - tell(chance.nextInt(3) == 0 ? new Weddings(chance).comings() : new Weddings(chance).text());
        for (int i = 0; left > 3; i++, left -= 4) {
            String mostly = i < 62 ? "pause" : "undo";
            String deed = chance.nextInt(12) > 0 ? mostly : DEEDS[chance.nextInt(DEEDS.length)];
            int kept = model.about(8);
            int minute = model.about(1);
            int who = chance.nextInt(7);
            int what = new int[] {0, 3, 4}[chance.nextInt(3)];
            int fact = new int[] {1, 2, 3, 6, 7, 9}[chance.nextInt(6)];
            boolean good = call(deed) && check("about8", real.about(8), model.about(8)) && check("about" + fact, real.about(fact), model.about(fact))
                    && check("objector" + who + "," + what, real.objector(who, what), model.objector(who, what));
            if (!good) {
                wrong++;
                System.out.println(story);
                return;
            }
            gone += kept == 40 && model.about(8) == 40 && model.about(1) > minute ? 1 : 0;
        }
    }

    private int tell(String text) {
        story.append("--- ").append(text.replace("\n", "|")).append('\n');
        real.end(0);
        model.end(0);
        int calls = 3;
        for (int at = 0; at < text.length(); at += 20) {
            int[] five = new int[5];
            for (int i = 0; i < 20; i++) five[i / 4] = five[i / 4] << 8 | (at + i < text.length() ? text.charAt(at + i) : 0);
            calls++;
            check("feed", real.feed(five[0], five[1], five[2], five[3], five[4]), model.feed(five));
        }
        check("end", real.end(text.length()), model.end(text.length()));
        if (!check("wedding", real.wedding(), model.wedding()) || !check("fault", real.fault(0) * 10000 + real.fault(1), model.fault(0) * 10000 + model.fault(1))) {
            wrong++;
            System.out.println(story);
        }
        return calls;
    }

    private boolean check(String call, long got, long due) {
        story.append(call).append(" answered ").append(got);
        if (got != due) story.append(", due is ").append(due);
        story.append('\n');
        return got == due;
    }

    private int some(int most) {
        return switch (chance.nextInt(25)) {
            case 0 -> -1;
            case 1 -> most + 1;
            case 2 -> chance.nextInt();
            case 3 -> Integer.MIN_VALUE;
            default -> chance.nextInt(most + 1);
        };
    }

    private int waiting() {
        int all = model.about(6) & chance.nextInt(128);
        while (Integer.bitCount(all) > 4 && chance.nextInt(6) > 0) all &= all - 1;
        return chance.nextInt(15) == 0 ? some(127) : all;
    }

    private boolean call(String call) {
        int a = some(6);
        int b = some(6);
        int w = some(1);
        int k = some(Math.max(1, model.about(11)));
        switch (call) {
            case "feed": if (chance.nextInt(5) > 0) return true; return check(call, real.feed(a, b, w, k, 1), model.feed(a, b, w, k, 1));
            case "end": if (chance.nextInt(3) > 0) return true; a = some(model.about(12)); return check(call + a, real.end(a), model.end(a));
            case "wedding": if (chance.nextInt(60) > 0) return true; return check(call, real.wedding(), model.wedding());
            case "fault": return check(call, real.fault(w), model.fault(w));
            case "objector": b = some(7); return check(call + a + "," + b, real.objector(a, b), model.objector(a, b));
            case "ranks": return check(call + a, real.ranks(a), model.ranks(a));
            case "hear": return check(call, real.hear(), model.hear());
            case "buy": if (chance.nextInt(2) > 0) return true; return check(call + a, real.buy(a), model.buy(a));
            case "pause": if (chance.nextInt(2) > 0) a = some(60); return check(call + a, real.pause(a), model.pause(a));
            case "trade": return check(call + a + "," + b, real.trade(a, b), model.trade(a, b));
            case "undo": return check(call, real.undo() ? 1 : 0, model.undo() ? 1 : 0);
            case "redo": return check(call, real.redo() ? 1 : 0, model.redo() ? 1 : 0);
            case "next": return check(call, real.next(), model.next());
            case "queue": return check(call, real.queue(), model.queue()) && lies();
            case "dusk": return check(call, real.dusk(), model.dusk());
            case "when": return check(call + a, real.when(a), model.when(a));
            case "course": return check(call, real.course(), model.course()) && lies();
            case "leavers": return check(call, real.leavers(), model.leavers());
            case "soonest": return check(call, real.soonest(), model.soonest()) && lies();
            case "first": return check(call + w, real.first(w), model.first(w));
            default: return ask(call, a, b, w, k);
        }
    }

    private boolean lies() {
        for (int i = 0; i < 8; i++) {
            if (!check("lies" + i, real.lies(i), model.lies(i))) return false;
        }
        return true;
    }

    private boolean ask(String call, int a, int b, int w, int k) {
        int set = waiting();
        boolean is = chance.nextBoolean();
        switch (call) {
            case "purchase": a = some(9999); if (chance.nextInt(5) > 0) a = model.about(1) - 2 + chance.nextInt(120);
                return check(call + a + "," + w, real.purchase(a, w), model.purchase(a, w));
            case "boast": return check(call + a, real.boast(a), model.boast(a));
            case "weight": return check(call, real.weight(), model.weight());
            case "threat": return check(call + w, real.threat(w), model.threat(w));
            case "bars": return check(call, real.bars(), model.bars());
            case "gain": return check(call + a, real.gain(a), model.gain(a));
            case "crowd": return check(call + a, real.crowd(a), model.crowd(a));
            case "odds": return check(call + set + "," + w, real.odds(set, w), model.odds(set, w));
            case "peril": return check(call + set + "," + w, real.peril(set, w), model.peril(set, w));
            case "tarry": return check(call + w, real.tarry(w), model.tarry(w));
            case "swap": a = some(2); return check(call + a, real.swap(a), model.swap(a));
            case "by": a = some(9999); if (chance.nextInt(5) > 0) a = model.about(1) - 2 + chance.nextInt(120);
                return check(call + a, real.by(a), model.by(a));
            case "upset": return check(call, real.upset(), model.upset());
            case "lies": return check(call + a, real.lies(a), model.lies(a));
            case "seen": a = some(8); is = chance.nextInt(4) == 0; return check(call + a + "," + b + is, real.seen(a, b, is), model.seen(a, b, is));
            case "untell": a = some(Math.max(1, model.about(10))); return check(call + a, real.untell(a) ? 1 : 0, model.untell(a) ? 1 : 0);
            case "later": a = some(chance.nextInt(4) == 0 ? 1000 : 3); return check(call + a, real.later(a), model.later(a));
            case "fits": return check(call + k, real.fits(k), model.fits(k));
            case "sure": return check(call + w + "," + k, real.sure(w, k), model.sure(w, k));
            case "ask": return check(call + w + "," + k, real.ask(w, k), model.ask(w, k));
            case "image": a = some(2); return check(call + a, real.image(a), model.image(a));
            case "back": a = some(2); if (chance.nextInt(3) > 0) return true; return check(call + a, real.back(a), model.back(a));
            default: a = some(14); return check(call + a, real.about(a), model.about(a));
        }
    }
}
