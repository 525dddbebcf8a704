/** The dearest calls, many times on one object: they end, and they make no new objects worth counting. */
public final class DearestTest {
    private final Check check = new Check();

    public static void main(String[] args) {
        DearestTest test = new DearestTest();
        test.longForecasts();
        test.wideOrders();
        test.longTurns();
        test.deepPlans();
        test.allHouses();
        test.roomOfManyObjects();
        test.check.end();
    }

    private static String thirtyWeeks() {
        StringBuilder b = new StringBuilder();
        for (int i = 0; i < 30; i++) {
            b.append("week ").append(i % 7).append(' ').append(40 + i).append(';');
        }
        return b.toString();
    }

    private static MudWalls tallYard() {
        MudWalls x = Check.yard("earth 20 60 9;wall 6 ground 1 hat outer 90;wall 6 hat;" + thirtyWeeks());
        for (int i = 0; i < 24; i++) {
            x.lift(0, 1);
            x.lift(1, 1);
            x.work(0, 4);
            x.weeks(0, 30);
            x.weeks(1, 30);
        }
        return x;
    }

    private void longForecasts() {
        MudWalls x = tallYard();
        long sum = 0;
        for (int i = 0; i < 60; i++) {
            for (int what = 0; what < 3; what++) {
                sum += x.line(0, 520, what) + x.line(1, 520, what);
            }
            sum += x.when(0, 9) + x.when(1, 9);
        }
        check.same("forecasts change nothing", x.count(6) - x.count(7), x.wall(0, 9) + x.wall(1, 9));
        check.same("forecasts repeat", 0, sum % 60);
    }

    private void wideOrders() {
        MudWalls x = Check.yard("earth 5 60 0;wall 6 ground 9 outer 10 inner 10;week 9 30;week 0 50;");
        x.lift(0, 3);
        int answer = x.order(0, 63);
        for (int i = 0; i < 200; i++) {
            check.same("order", answer, x.order(0, 63));
        }
    }

    private void longTurns() {
        MudWalls x = Check.yard("earth 20 60 2;wall 6 hat;wall 6 hat;week 0 40;week 5 60;");
        int built = x.turned(0, 1, 8, 0);
        for (int i = 0; i < 200; i++) {
            check.same("turned", built, x.turned(0, 1, 8, 0));
        }
    }

    private void deepPlans() {
        MudWalls x = Check.yard("earth 20 60 3;wall 6 hat;week 0 20;");
        int last = 0;
        for (int height = 1; height <= 24; height++) {
            int weeks = x.plan(0, height);
            check.same("plans to more height are no shorter", 1, weeks == MudWalls.NONE || weeks >= last ? 1 : 0);
            last = weeks == MudWalls.NONE ? 6 : weeks;
        }
    }

    private void allHouses() {
        MudWalls x = new MudWalls();
        for (int i = 0; i < 12; i++) {
            check.same("house", i + 1, x.house(100 + 37 * i % 90, 1 + 5 * i % 7, 100 + 61 * i % 77));
        }
        int worth = x.first(700, 0);
        for (int i = 0; i < 300; i++) {
            check.same("first", worth, x.first(700, 0));
        }
    }

    /** Objects by the hundred must fit into the one room of a run, which is far smaller than this machine's. */
    private void roomOfManyObjects() {
        Runtime machine = Runtime.getRuntime();
        MudWalls[] many = new MudWalls[512];
        machine.gc();
        long before = machine.totalMemory() - machine.freeMemory();
        for (int i = 0; i < many.length; i++) {
            many[i] = new MudWalls();
        }
        machine.gc();
        long bytes = machine.totalMemory() - machine.freeMemory() - before;
        check.same("512 objects hold less than 7 million ints", 1, bytes < 4L * 7000000 ? 1 : 0);
        check.same("the last of them is new", 0, many[511].count(0));
    }
}
