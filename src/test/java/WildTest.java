import java.util.Random;

/** No call throws or fails to end, for any arguments in any state; and what is refused leaves counts as they were. */
public final class WildTest {
    private static final int[] NUMBERS = {
        Integer.MIN_VALUE, Integer.MIN_VALUE + 1, -1000, -3, -2, -1, 0, 1, 2, 3, 4, 5, 6, 7, 8, 9, 11, 12, 13, 63, 64,
        99, 100, 101, 223, 224, 255, 256, 299, 300, 301, 999, 1000, 9999, 10000, 1 << 16, 1 << 29, 1 << 30,
        Integer.MAX_VALUE - 1, Integer.MAX_VALUE,
    };

    private final Random random;
    private final WallPlanner x = new WallPlanner();

    private WildTest(int run) {
        random = new Random(run);
    }

    public static void main(String[] args) {
        Due due = new Due();
        for (int run = 0; run < 400; run++) {
            new WildTest(run).go(due, run);
        }
        due.end();
    }

    private int some() {
        return random.nextInt(3) == 0 ? NUMBERS[random.nextInt(NUMBERS.length)] : random.nextInt(8);
    }

    private void go(Due due, int run) {
        for (int call = 0; call < 509; call++) {
            int what = random.nextInt(20);
            try {
                tell(what);
            } catch (RuntimeException e) {
                e.printStackTrace(System.out);
                due.yes("run " + run + ": no throw in method " + what, false);
            }
        }
        due.yes("hosts", x.count(0) <= 8);
        due.yes("talks", x.count(1) <= 300);
        due.yes("rooms", x.count(2) <= x.count(0));
    }

    private void tell(int what) {
        switch (what) {
            case 0 -> x.host(some());
            case 1 -> x.must(some(), some(), some(), random.nextBoolean());
            case 2 -> x.bar(some(), some(), some(), random.nextBoolean());
            case 3 -> x.law(some(), some(), random.nextBoolean());
            case 4 -> x.prices(some(), some());
            case 5 -> x.weight(some(), some(), some(), some());
            case 6 -> x.needed(some(), some(), some(), some());
            case 7 -> x.plan(some());
            case 8 -> x.room(some());
            case 9 -> x.rule(some(), some());
            case 10 -> x.lets(some(), some(), some());
            case 11 -> x.reach(some());
            case 12 -> x.spread(some());
            case 13 -> x.shut(some());
            case 14 -> x.shutting(some());
            case 15 -> x.odd(some());
            case 16 -> x.oddTalk(some(), some());
            case 17 -> x.place(some(), some());
            case 18 -> x.count(some());
            default -> x.talk(some(), some(), some(), some(), some());
        }
    }
}
