import java.lang.management.ManagementFactory;
import java.lang.reflect.Array;
import java.lang.reflect.Field;
import java.lang.reflect.Modifier;
import java.util.ArrayList;
import java.util.List;

/** No call takes room: an object makes all its rows at first. And none throws or hangs, whatever it is told. */
public final class RoomTest {
    private static final String DEAR = "objector a grave 9 minutes 9 stays 99 price 1;objector b grave 8 minutes 1 stays 99;"
            + "objector c grave 7 minutes 60 late;objector d grave 6 minutes 5 late;objector e grave 5 minutes 5 price 9;"
            + "objector f grave 4 minutes 7;objector g grave 3 minutes 8;brings a c;brings b c;brings e d;brings g d;settles f g;"
            + "order (grave*minutes+waited)%7*(number+1)+heard-(minute/3)+((grave=3) or (waited>9) and not not heard);answer 50+number;";
    private static final int MOST_BYTES_MADE = 50000;
    private static final int MOST_BYTES_TAKEN = 4000;

    public static void main(String[] args) {
        Crowd.at("room");
        com.sun.management.ThreadMXBean meter = (com.sun.management.ThreadMXBean) ManagementFactory.getThreadMXBean();
        // the first one loads the classes
        Crowd.due("about", new Objections().about(4), 100);
        meter.getCurrentThreadAllocatedBytes();
        long before = meter.getCurrentThreadAllocatedBytes();
        Objections x = new Objections();
        long made = meter.getCurrentThreadAllocatedBytes() - before;
        Crowd.due("a new object takes " + made + " bytes", made < MOST_BYTES_MADE, true);
        Crowd.feed(x, DEAR);
        Crowd.due("wedding", x.wedding(), 7);
        before = meter.getCurrentThreadAllocatedBytes();
        long sum = 0;
        for (int i = 0; i < 12; i++) {
            sum += calls(x, i);
        }
        long taken = meter.getCurrentThreadAllocatedBytes() - before;
        Crowd.due("516 calls take " + taken + " bytes", taken < MOST_BYTES_TAKEN, true);
        Crowd.due("the calls answered", sum != 0, true);
        rows();
        edges();
        Crowd.close("RoomTest");
    }

    /** How many objects and arrays a new one is, and how many fields and elements these have, as README.md tells. */
    private static void rows() {
        List<Object> all = new ArrayList<>(List.of(new Objections()));
        int numbers = 0;
        for (int i = 0; i < all.size(); i++) {
            Object one = all.get(i);
            if (one.getClass().isArray()) {
                numbers += Array.getLength(one);
                for (int k = 0; one instanceof Object[] && k < Array.getLength(one); k++) addNew(all, Array.get(one, k));
            } else {
                for (Field f : one.getClass().getDeclaredFields()) {
                    if (Modifier.isStatic(f.getModifiers())) continue;
                    numbers++;
                    f.setAccessible(true);
                    if (!f.getType().isPrimitive()) addNew(all, valueOf(f, one));
                }
            }
        }
        System.out.println("a new object is " + all.size() + " objects and arrays with " + numbers + " fields and elements");
        Crowd.due("objects and arrays, to the next ten", (all.size() + 9) / 10 * 10, 110);
        Crowd.due("fields and elements, to the next hundred", (numbers + 99) / 100 * 100, 6700);
    }

    private static Object valueOf(Field field, Object one) {
        try {
            return field.get(one);
        } catch (IllegalAccessException e) {
            throw new IllegalStateException(e);
        }
    }

    private static void addNew(List<Object> all, Object one) {
        if (all.stream().noneMatch(x -> x == one)) all.add(one);
    }

    private static long calls(Objections x, int i) {
        long sum = x.feed(0x62617220, 0x353b2020, i, i, i) + x.end(6) + (i == 6 ? x.wedding() : 0) + x.fault(i) + x.objector(i, i) + x.ranks(i);
        sum += (i % 3 == 0 ? x.hear() : 0) + (i == 5 ? x.buy(4) : 0) + x.pause(i % 4) + x.trade(i, i + 1) + (x.undo() ? 1 : 0) + (x.redo() ? 1 : 0);
        sum += x.next() + x.queue() + x.dusk() + x.when(i) + x.course() + x.leavers() + x.soonest() + x.first(0) + x.purchase(i * 9, 0);
        sum += x.boast(i) + x.weight() + x.threat(0) + x.bars() + x.gain(i) + x.crowd(i) + x.odds(3, 0) + x.peril(3, 0) + x.tarry(0) + x.swap(0);
        sum += x.by(50) + x.upset() + x.lies(i) + x.seen(i, i, false) + (x.untell(i) ? 1 : 0) + x.later(i) + x.fits(i) + x.sure(0, i);
        return sum + x.ask(0, i) + x.image(i % 3) + (i == 9 ? x.back(0) : 0) + x.about(i);
    }

    /** Every call with every odd number, on an empty object and on one that is well ahead. */
    private static void edges() {
        int[] odd = {Integer.MIN_VALUE, Integer.MIN_VALUE + 1, -1000, -2, -1, 0, 1, 6, 7, 8, 31, 32, 33, 64, 127, 128, 1600, 10000, Integer.MAX_VALUE};
        long sum = 0;
        for (int a : odd) {
            for (int b : odd) {
                Objections x = new Objections();
                sum += odd(x, a, b);
                Crowd.feed(x, DEAR);
                x.wedding();
                x.hear();
                sum += odd(x, a, b);
            }
        }
        Crowd.due("all calls answered", sum != 0, true);
        Objections x = Crowd.told(DEAR);
        for (int i = 0; i < 5000; i++) {
            calls(x, i);
            x.pause(60);
        }
        Crowd.due("long after", x.wedding() >= -1, true);
    }

    private static long odd(Objections x, int a, int b) {
        long sum = x.fault(a) + x.objector(a, b) + x.ranks(a) + x.buy(a) + x.pause(a) + x.trade(a, b) + x.when(a) + x.first(a);
        sum += x.purchase(a, b) + x.boast(a) + x.threat(a) + x.gain(a) + x.crowd(a) + x.odds(a, b) + x.peril(a, b) + x.tarry(a) + x.swap(a);
        sum += x.by(a) + x.lies(a) + x.seen(a, b, true) + x.seen(b, a, false) + (x.untell(a) ? 1 : 0) + x.later(a) + x.fits(a) + x.sure(a, b);
        return sum + x.ask(a, b) + x.image(a) + x.back(a) + x.about(a) + x.end(a) + x.feed(a, b, a, b, a) + x.wedding() + x.dusk() + x.soonest();
    }
}
