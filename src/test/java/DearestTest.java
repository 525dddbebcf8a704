import com.sun.management.ThreadMXBean;
import java.lang.management.ManagementFactory;
import java.lang.reflect.Array;
import java.lang.reflect.Field;
import java.lang.reflect.Modifier;
import java.util.ArrayDeque;
import java.util.IdentityHashMap;

/** The dearest calls, many times on one object: they end, and they make no new objects. */
public final class DearestTest {
    private final Check check = new Check();

    public static void main(String[] args) throws IllegalAccessException {
        DearestTest test = new DearestTest();
        test.longForecasts();
        test.wideOrders();
        test.longTurns();
        test.deepPlans();
        test.allHouses();
        test.roomOfManyObjects();
        test.callsMakeNothing();
        test.check.end();
    }

    private static String thirtyWeeks() {
        StringBuilder b = new StringBuilder();
        for (int i = 0; i < 30; i++) {
            b.append("week ").append(i % 7).append(' ').append(40 + i).append(';');
        }
        return b.toString();
    }

    private static MudWalls tallYard() {
        MudWalls x = Check.yard("earth 20 60 9;wall 6 ground 1 hat outer 90;wall 6 hat;" + thirtyWeeks());
        for (int i = 0; i < 24; i++) {
            x.lift(0, 1);
            x.lift(1, 1);
            x.work(0, 4);
            x.weeks(0, 30);
            x.weeks(1, 30);
        }
        return x;
    }

    private void longForecasts() {
        MudWalls x = tallYard();
        long sum = 0;
        for (int i = 0; i < 40; i++) {
            for (int what = 0; what < 3; what++) {
                sum += x.line(0, 520, what) + x.line(1, 520, what);
            }
            sum += x.when(0, 9) + x.when(1, 9);
        }
        check.same("forecasts change nothing", x.count(6) - x.count(7), x.wall(0, 9) + x.wall(1, 9));
        check.same("forecasts repeat", 0, sum % 40);
    }

    private void wideOrders() {
        MudWalls x = Check.yard("earth 5 60 0;wall 6 ground 9 outer 10 inner 10;week 9 30;week 0 50;");
        x.lift(0, 3);
        int answer = x.order(0, 63);
        for (int i = 0; i < 200; i++) {
            check.same("order", answer, x.order(0, 63));
        }
    }

    private void longTurns() {
        MudWalls x = Check.yard("earth 20 60 2;wall 6 hat;wall 6 hat;week 0 40;week 5 60;");
        int built = x.turned(0, 1, 8, 0);
        for (int i = 0; i < 200; i++) {
            check.same("turned", built, x.turned(0, 1, 8, 0));
        }
    }

    private void deepPlans() {
        MudWalls x = Check.yard("earth 20 60 3;wall 6 hat;week 0 20;");
        int last = 0;
        for (int height = 1; height <= 24; height++) {
            int weeks = x.plan(0, height);
            check.same("plans to more height are no shorter", 1, weeks == MudWalls.NONE || weeks >= last ? 1 : 0);
            last = weeks == MudWalls.NONE ? 6 : weeks;
        }
    }

    private void allHouses() {
        MudWalls x = new MudWalls();
        for (int i = 0; i < 12; i++) {
            check.same("house", i + 1, x.house(100 + 37 * i % 90, 1 + 5 * i % 7, 100 + 61 * i % 77));
        }
        int worth = x.first(700, 0);
        for (int i = 0; i < 300; i++) {
            check.same("first", worth, x.first(700, 0));
        }
    }

    /** Objects and elements that one MudWalls holds: as many as a run has calls must fit into a run's one room. */
    private void roomOfManyObjects() throws IllegalAccessException {
        IdentityHashMap<Object, Boolean> seen = new IdentityHashMap<>();
        ArrayDeque<Object> open = new ArrayDeque<>();
        open.add(new MudWalls());
        seen.put(open.peek(), true);
        long elements = 0;
        while (!open.isEmpty()) {
            Object at = open.remove();
            if (at.getClass().isArray()) {
                elements += Array.getLength(at);
                for (int i = 0; i < Array.getLength(at) && at instanceof Object[]; i++) {
                    visit(Array.get(at, i), seen, open);
                }
                continue;
            }
            for (Field f : at.getClass().getDeclaredFields()) {
                if (!Modifier.isStatic(f.getModifiers())) {
                    elements++;
                    f.setAccessible(true);
                    visit(f.getType().isPrimitive() ? null : f.get(at), seen, open);
                }
            }
        }
        check.same("512 times " + seen.size() + " objects", 1, 512L * seen.size() < 600000 ? 1 : 0);
        check.same("512 times " + elements + " elements", 1, 512L * elements < 7300000 ? 1 : 0);
    }

    private static void visit(Object next, IdentityHashMap<Object, Boolean> seen, ArrayDeque<Object> open) {
        if (next != null && seen.put(next, true) == null) {
            open.add(next);
        }
    }

    private void callsMakeNothing() {
        MudWalls x = Check.yard("earth 20 60 3;wall 6 hat;wall 5;week 3 30;week 0 50 frost;");
        ThreadMXBean threads = (ThreadMXBean) ManagementFactory.getThreadMXBean();
        x.house(5, 5, 5);
        everyCall(x);
        long before = threads.getCurrentThreadAllocatedBytes();
        long before2 = threads.getCurrentThreadAllocatedBytes();
        everyCall(x);
        long made = threads.getCurrentThreadAllocatedBytes() - before2 - (before2 - before);
        check.same("bytes that calls make", 0, made);
    }

    private static void everyCall(MudWalls x) {
        x.lift(0, 2);
        x.weeks(0, 3);
        x.high(0);
        x.when(0, 3);
        x.plan(0, 8);
        x.turned(0, 1, 6, 0);
        x.line(0, 200, 0);
        x.line(0, 200, 1);
        x.order(0, 63);
        x.first(77, 2);
        x.guess(0, 0);
        x.guess(1, 1);
        x.stick(0, 0, 150, 50);
        x.where();
        x.brick(3, true);
        x.mix(3);
        x.image();
        x.down(0);
        x.restore();
    }
}
