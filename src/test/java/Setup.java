/** Planners to begin a test with. */
final class Setup {
    private Setup() { }

    static WallPlanner withMarks(int... marks) {
        WallPlanner x = new WallPlanner();
        for (int mark : marks) {
            x.host(mark);
        }
        return x;
    }

    /** Hosts of mark 0. */
    static WallPlanner withHosts(int hosts) {
        return withMarks(new int[hosts]);
    }

    /** Rules cost nothing and strays much, so each host has a room of its own. */
    static WallPlanner withHostsApart(int hosts) {
        WallPlanner x = withHosts(hosts);
        x.prices(0, 99);
        return x;
    }

    /** Between these two all is needed, so one room for both has no stray. */
    static void mustAll(WallPlanner x, int one, int other) {
        for (int door = 0; door < 4; door++) {
            x.must(one, other, door, true);
            x.must(other, one, door, true);
        }
    }

    /**
     * Something of everything, none of it as at first, and told on since: the plan is of day 9 and other needs, law
     * and prices than those of now. Rooms 0 (hosts 0, 1), 1 (2, 3), 2 (4), host 5 in none; rules (0, 1, 1) of weight
     * 10, (1, 0, 0) of 5, (1, 2, 2) of 7, (2, 0, 3) of 3; 7 strays, cost 43; of the latest shut(), 18, rules 0, 1, 3;
     * of the latest odd() three talks; 13 talks in all.
     */
    static WallPlanner livedIn() {
        WallPlanner x = withMarks(0, 0, 1, 1, 2);
        x.law(5, 3, false);
        x.prices(9, 1);
        mustAll(x, 0, 1);
        mustAll(x, 2, 3);
        x.talk(0, 2, 1, 5, 4);
        x.talk(1, 3, 1, 7, 6);
        x.talk(1, 2, 1, 9, 2);
        x.talk(2, 0, 0, 9, 5);
        x.talk(4, 0, 3, 9, 3);
        x.talk(3, 4, 2, 8, 7);
        x.bar(4, 1, 0, true);
        x.bar(0, 4, 2, true);
        x.plan(9);
        x.shut(2);
        x.host(3);
        x.talk(0, 3, 0, 9, 8);
        x.talk(2, 4, 1, 9, 1);
        x.talk(5, 0, 0, 9, 2);
        x.talk(0, 2, 1, 9, 1);
        x.odd(9);
        x.must(3, 4, 2, true);
        x.bar(5, 2, 1, true);
        x.law(4, 2, true);
        x.prices(4, 2);
        x.talk(4, 5, 0, 8, 9);
        x.talk(1, 4, 0, 0, 6);
        x.talk(1, 4, 0, 99, 7);
        return x;
    }

    /** 8 hosts, the last in no room, and 300 talks; a plan, a shut() and an odd() made on the way. */
    static WallPlanner full() {
        WallPlanner x = withMarks(0, 1, 2, 3, 0, 1, 2);
        x.prices(0, 99);
        for (int i = 0; i < 290; i++) {
            x.talk(i % 3, 3 + i % 4, i % 2, i % 10, 1 + i);
        }
        x.plan(9);
        x.shut(0);
        x.host(3);
        for (int i = 0; i < 10; i++) {
            x.talk(7 - i % 2, i % 3, 3, 9, 1 + i);
        }
        x.odd(9);
        return x;
    }

    /** Hosts and talks, musts and bars, and no plan. */
    static WallPlanner unplanned() {
        WallPlanner x = withMarks(0, 1, 0);
        x.talk(0, 2, 1, 9, 5);
        x.talk(2, 1, 0, 9, 2);
        x.must(0, 1, 0, true);
        x.bar(1, 0, 0, true);
        return x;
    }

    /** Each in a room of its own; a rule of weight 5 from 0 to 1, one of 3 from 1 to 2. No shut() yet, no odd(). */
    static WallPlanner chain() {
        WallPlanner x = withHostsApart(3);
        x.talk(0, 1, 0, 9, 5);
        x.talk(1, 2, 0, 9, 3);
        x.plan(9);
        return x;
    }

    /** As many rules as told (up to 28) to host 7, of weights 1, 2, 3, .., and nothing else. */
    static WallPlanner withRules(int rules) {
        WallPlanner x = withHostsApart(8);
        for (int i = 0; i < rules; i++) {
            x.talk(i / 4, 7, i % 4, 9, 1 + i);
        }
        x.plan(9);
        return x;
    }
}
