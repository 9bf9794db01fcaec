import java.util.Random;

/** Promises 1 to 21: the same calls, ordinary ones and wrong ones mixed, told to WallPlanner and to the Model. */
public final class ModelTest {
    private static final int RUNS = 160;
    private static final int MOST_CALLS = 512;

    private final Due due;
    private final Random random;
    private final String name;
    private final WallPlanner planner = new WallPlanner();
    private final Model model = new Model();
    private final int lively;
    private final int days;
    private final boolean mixed;
    private final int hostsAtFirst;
    private int calls = 0;

    private ModelTest(Due due, int run) {
        this.due = due;
        random = new Random(run);
        name = "run " + run;
        lively = 2 + random.nextInt(40);
        days = random.nextBoolean() ? 100 : 1 + random.nextInt(12);
        mixed = random.nextBoolean();
        hostsAtFirst = random.nextInt(9);
    }

    public static void main(String[] args) {
        Due due = new Due();
        for (int run = 0; run < RUNS; run++) {
            new ModelTest(due, run).go();
        }
        due.end();
    }

    private void go() {
        for (int i = 0; i < hostsAtFirst; i++) {
            host(mixed ? random.nextInt(4) : 1);
        }
        for (int i = 0; i < lively; i++) {
            talk();
        }
        int wrongBefore = due.wrongSoFar();
        while (calls < MOST_CALLS - 130 && due.wrongSoFar() == wrongBefore) {
            step();
        }
    }

    private void same(String call, int got, int want) {
        calls++;
        due.is(name + ", call " + calls + ": " + call, got, want);
    }

    private void same(String call, boolean got, boolean want) {
        same(call, got ? 1 : 0, want ? 1 : 0);
    }

    private int some(int most) {
        return random.nextInt(40) == 0 ? wild(most) : random.nextInt(most);
    }

    private int wild(int most) {
        int[] numbers = {-1, most, most + 1, Integer.MIN_VALUE, Integer.MAX_VALUE, -2, 1000};
        return numbers[random.nextInt(numbers.length)];
    }

    private int someHost() {
        return some(Math.max(1, model.count(0)));
    }

    private void step() {
        switch (random.nextInt(20)) {
            case 0, 1, 2, 3 -> talk();
            case 4 -> must();
            case 5 -> bar();
            case 6 -> law();
            case 7 -> prices();
            case 8 -> weigh();
            case 9, 10 -> plan();
            case 11, 12 -> shut();
            case 13, 14 -> odd();
            case 15 -> look();
            case 16 -> host(some(4));
            case 17, 18 -> place();
            default -> lookAtOne();
        }
    }

    private void host(int mark) {
        same("host(" + mark + ")", planner.host(mark), model.host(mark));
    }

    private void talk() {
        int from = someHost();
        int to = someHost();
        int door = some(4);
        int day = some(days);
        int count = 1 + some(9);
        same("talk(" + from + ", " + to + ", " + door + ", " + day + ", " + count + ")",
            planner.talk(from, to, door, day, count), model.talk(from, to, door, day, count));
    }

    private void must() {
        int from = someHost();
        int to = someHost();
        int door = some(4);
        boolean on = random.nextInt(3) > 0;
        same("must(" + from + ", " + to + ", " + door + ", " + on + ")",
            planner.must(from, to, door, on), model.must(from, to, door, on));
    }

    private void bar() {
        int from = someHost();
        int to = someHost();
        int door = some(4);
        boolean on = random.nextInt(3) > 0;
        same("bar(" + from + ", " + to + ", " + door + ", " + on + ")",
            planner.bar(from, to, door, on), model.bar(from, to, door, on));
    }

    private void law() {
        int window = 1 + some(random.nextBoolean() ? 10 : 100);
        int least = 1 + some(12);
        boolean strict = random.nextInt(3) == 0;
        same("law(" + window + ", " + least + ", " + strict + ")",
            planner.law(window, least, strict), model.law(window, least, strict));
    }

    private void prices() {
        int rule = some(random.nextBoolean() ? 100 : 20);
        int stray = some(random.nextBoolean() ? 3 : 8);
        same("prices(" + rule + ", " + stray + ")", planner.prices(rule, stray), model.prices(rule, stray));
    }

    private void weigh() {
        int from = someHost();
        int to = someHost();
        int door = some(4);
        int day = some(days);
        String way = "(" + from + ", " + to + ", " + door + ", " + day + ")";
        same("weight" + way, planner.weight(from, to, door, day), model.weight(from, to, door, day));
        same("needed" + way, planner.needed(from, to, door, day), model.needed(from, to, door, day));
    }

    private void plan() {
        int day = some(days);
        same("plan(" + day + ")", planner.plan(day), model.plan(day));
        look();
    }

    private void place() {
        int host = random.nextInt(4) == 0 ? someHost() : model.count(0) - 1;
        int day = some(days);
        same("place(" + host + ", " + day + ")", planner.place(host, day), model.place(host, day));
        look();
    }

    private void look() {
        for (int what = -1; what <= 6; what++) {
            same("count(" + what + ")", planner.count(what), model.count(what));
        }
        for (int host = -1; host <= 8; host++) {
            same("room(" + host + ")", planner.room(host), model.room(host));
        }
        same("spread(0)", planner.spread(0), model.spread(0));
        same("spread(1)", planner.spread(1), model.spread(1));
        int rules = Math.min(4, model.count(3) + 1);
        for (int i = 0; i < rules; i++) {
            lookAtRule(random.nextInt(model.count(3) + 1));
        }
    }

    private void lookAtRule(int k) {
        for (int what = 0; what <= 5; what++) {
            same("rule(" + k + ", " + what + ")", planner.rule(k, what), model.rule(k, what));
        }
    }

    private void lookAtOne() {
        int from = someHost();
        int to = someHost();
        int door = some(4);
        int k = some(model.count(3) + 1);
        int what = some(6);
        same("lets(" + from + ", " + to + ", " + door + ")", planner.lets(from, to, door), model.lets(from, to, door));
        same("reach(" + from + ")", planner.reach(from), model.reach(from));
        same("spread(" + what + ")", planner.spread(what), model.spread(what));
        same("rule(" + k + ", " + what + ")", planner.rule(k, what), model.rule(k, what));
    }

    private void shut() {
        int most = some(9);
        same("shut(" + most + ")", planner.shut(most), model.shut(most));
        boolean more = true;
        for (int k = -1; more; k++) {
            same("shutting(" + k + ")", planner.shutting(k), model.shutting(k));
            more = k < 0 || model.shutting(k) != -1;
        }
    }

    private void odd() {
        int day = some(days);
        same("odd(" + day + ")", planner.odd(day), model.odd(day));
        int k = some(8);
        for (int what = -1; what <= 5; what++) {
            same("oddTalk(" + k + ", " + what + ")", planner.oddTalk(k, what), model.oddTalk(k, what));
        }
    }
}
