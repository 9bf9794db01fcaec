/** Planners to begin a test with. */
final class Setup {
    private Setup() { }

    static WallPlanner withMarks(int... marks) {
        WallPlanner x = new WallPlanner();
        for (int mark : marks) {
            x.host(mark);
        }
        return x;
    }

    /** Hosts of mark 0. */
    static WallPlanner withHosts(int hosts) {
        return withMarks(new int[hosts]);
    }

    /** Rules cost nothing and strays much, so each host has a room of its own. */
    static WallPlanner withHostsApart(int hosts) {
        WallPlanner x = withHosts(hosts);
        x.prices(0, 99);
        return x;
    }

    /** Between these two all is needed, so one room for both has no stray. */
    static void mustAll(WallPlanner x, int one, int other) {
        for (int door = 0; door < 4; door++) {
            x.must(one, other, door, true);
            x.must(other, one, door, true);
        }
    }
}
