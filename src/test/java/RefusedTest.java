/**
 * Every ground for which a call answers NONE, false or -2, beside the bounds of its numbers (those are in BoundsTest);
 * after it all is as it was. And what is only asked changes nothing either.
 */
public final class RefusedTest {
    private static final Due DUE = new Due();
    private static final Twins ALL = Twins.ofAll(DUE);
    private static final Twins.Making NEW = WallPlanner::new;
    private static final Twins.Making UNPLANNED = Setup::unplanned;
    private static final Twins.Making LIVED_IN = Setup::livedIn;
    private static final Twins.Making CHAIN = Setup::chain;
    private static final Twins.Making SPENT = RefusedTest::spent;
    private static final Twins.Making EMPTY_LISTS = RefusedTest::emptyLists;

    public static void main(String[] args) {
        withoutHosts();
        withoutAPlan();
        withoutAPlanOfFew();
        mustOfABarredWay();
        mustSoAlready();
        barOfAMust();
        barSoAlready();
        inNoRoom();
        noSuchSet();
        spentSets();
        emptyListsOfLatest();
        placeInARoom();
        placeNowhere();
        whatIsOnlyAsked();
        whatIsMadeAgain();
        DUE.end();
    }

    private static int asInt(boolean yes) {
        return yes ? 1 : 0;
    }

    /** A new object: "No HOSTS, no TALKS, no PLAN"; plan: "NONE: .. or no HOSTS". */
    private static void withoutHosts() {
        for (int way = 0; way < 32; way++) {
            int from = way / 16;
            int to = way / 4 % 4;
            int door = way % 4;
            ALL.stay("3: no hosts", NEW, x -> x.talk(from, to, door, 0, 1), -1);
            ALL.stay("4: no hosts", NEW, x -> asInt(x.must(from, to, door, true)), 0);
            ALL.stay("4: no hosts, off", NEW, x -> asInt(x.must(from, to, door, false)), 0);
            ALL.stay("5: no hosts", NEW, x -> asInt(x.bar(from, to, door, true)), 0);
            ALL.stay("5: no hosts, off", NEW, x -> asInt(x.bar(from, to, door, false)), 0);
            ALL.stay("8: no hosts", NEW, x -> x.weight(from, to, door, 0), -1);
            ALL.stay("9: no hosts", NEW, x -> x.needed(from, to, door, 0), -1);
            ALL.stay("13: no hosts", NEW, x -> x.lets(from, to, door), -1);
        }
        for (int day = 0; day < 100; day += 33) {
            int d = day;
            ALL.stay("10: no hosts", NEW, x -> x.plan(d), -1);
        }
        withoutARoom("no hosts", NEW);
    }

    /** "or no PLAN", "NONE without HOSTS in ROOMS", "NONE without a PLAN". */
    private static void withoutAPlan() {
        withoutARoom("no plan", UNPLANNED);
        for (int door = 0; door < 4; door++) {
            int d = door;
            ALL.stay("13: no plan", UNPLANNED, x -> x.lets(0, 1, d), -1);
            ALL.stay("13: no plan", UNPLANNED, x -> x.lets(2, 0, d), -1);
        }
    }

    private static void withoutAPlanOfFew() {
        withoutARoom("one host, no plan", () -> Setup.withHosts(1));
        WallPlanner x = Setup.withHosts(1);
        DUE.is("10: one host, no such day", x.plan(100), -1);
        DUE.is("15: still no plan", x.spread(0), -1);
        DUE.is("10: one host", x.plan(0), 0);
        DUE.is("15: one host", x.spread(0), 0);
        DUE.is("15: one host", x.spread(1), 0);
    }

    private static void withoutARoom(String why, Twins.Making making) {
        int[] counts = {0, 0, 0, -1};
        for (int i = 0; i < counts.length; i++) {
            int what = 2 + i;
            ALL.stay("21: " + why, making, x -> x.count(what), counts[i]);
        }
        for (int i = 0; i < 8; i++) {
            int n = i;
            ALL.stay("11: " + why, making, x -> x.room(n), -1);
            ALL.stay("12: " + why, making, x -> x.rule(0, n), -1);
            ALL.stay("14: " + why, making, x -> x.reach(n), -1);
            ALL.stay("16: " + why, making, x -> x.shut(n), -1);
            ALL.stay("17: " + why, making, x -> x.shutting(n), -1);
            ALL.stay("18: " + why, making, x -> x.odd(n), -1);
            ALL.stay("19: " + why, making, x -> x.oddTalk(0, n), -1);
            ALL.stay("20: " + why, making, x -> x.place(n, 9), -1);
        }
        ALL.stay("15: " + why, making, x -> x.spread(0), -1);
        ALL.stay("15: " + why, making, x -> x.spread(1), -1);
        ALL.stay("16: " + why, making, x -> x.shut(8), -1);
        ALL.stay("18: " + why, making, x -> x.odd(99), -1);
    }

    /** must: "false: .. it is BARRED". */
    private static void mustOfABarredWay() {
        ALL.stay("4: a barred way", LIVED_IN, x -> asInt(x.must(4, 1, 0, true)), 0);
        ALL.stay("4: a barred way, off", LIVED_IN, x -> asInt(x.must(4, 1, 0, false)), 0);
        ALL.stay("4: a way barred since the plan", LIVED_IN, x -> asInt(x.must(5, 2, 1, true)), 0);
        WallPlanner x = Setup.livedIn();
        x.bar(4, 1, 0, false);
        DUE.yes("4: barred no more", x.must(4, 1, 0, true));
    }

    /** must: "false: .. or it is so already". */
    private static void mustSoAlready() {
        ALL.stay("4: a must already", LIVED_IN, x -> asInt(x.must(0, 1, 0, true)), 0);
        ALL.stay("4: a must since the plan", LIVED_IN, x -> asInt(x.must(3, 4, 2, true)), 0);
        ALL.stay("4: no must already", LIVED_IN, x -> asInt(x.must(0, 2, 1, false)), 0);
        WallPlanner x = Setup.livedIn();
        DUE.yes("4: off", x.must(0, 1, 0, false));
        DUE.no("4: off already", x.must(0, 1, 0, false));
        DUE.yes("4: on again", x.must(0, 1, 0, true));
        DUE.no("4: on already", x.must(0, 1, 0, true));
    }

    /** bar: "false: .. it is a MUST". */
    private static void barOfAMust() {
        ALL.stay("5: a must", LIVED_IN, x -> asInt(x.bar(0, 1, 0, true)), 0);
        ALL.stay("5: a must, off", LIVED_IN, x -> asInt(x.bar(0, 1, 0, false)), 0);
        ALL.stay("5: a must since the plan", LIVED_IN, x -> asInt(x.bar(3, 4, 2, true)), 0);
        WallPlanner x = Setup.livedIn();
        x.must(0, 1, 0, false);
        DUE.yes("5: no must any more", x.bar(0, 1, 0, true));
    }

    /** bar: "false: .. or it is so already". */
    private static void barSoAlready() {
        ALL.stay("5: barred already", LIVED_IN, x -> asInt(x.bar(4, 1, 0, true)), 0);
        ALL.stay("5: barred since the plan", LIVED_IN, x -> asInt(x.bar(5, 2, 1, true)), 0);
        ALL.stay("5: not barred already", LIVED_IN, x -> asInt(x.bar(0, 2, 1, false)), 0);
        WallPlanner x = Setup.livedIn();
        DUE.yes("5: off", x.bar(4, 1, 0, false));
        DUE.no("5: off already", x.bar(4, 1, 0, false));
        DUE.yes("5: on again", x.bar(4, 1, 0, true));
        DUE.no("5: on already", x.bar(4, 1, 0, true));
    }

    /** room: "NONE: .. or it is in none"; lets: "or one of its HOSTS is in no ROOM"; reach likewise. */
    private static void inNoRoom() {
        ALL.stay("11: in none", LIVED_IN, x -> x.room(5), -1);
        ALL.stay("14: in none", LIVED_IN, x -> x.reach(5), -1);
        for (int door = 0; door < 4; door++) {
            int d = door;
            ALL.stay("13: from one in none", LIVED_IN, x -> x.lets(5, 0, d), -1);
            ALL.stay("13: to one in none", LIVED_IN, x -> x.lets(4, 5, d), -1);
        }
        WallPlanner x = Setup.livedIn();
        x.host(3);
        DUE.is("13: both in none", x.lets(5, 6, 0), -1);
        DUE.is("11: in none", x.room(6), -1);
    }

    /** shut: "NONE: .. or there is no such set". */
    private static void noSuchSet() {
        ALL.stay("16: a must lets too far", LIVED_IN, x -> x.shut(1), -1);
        ALL.stay("16: a must lets too far", LIVED_IN, x -> x.shut(0), -1);
        DUE.is("16: as far as the must lets", Setup.livedIn().shut(2), 18);
        Twins.Making oneRoom = RefusedTest::oneRoom;
        ALL.stay("16: within a room nothing is shut", oneRoom, x -> x.shut(1), -1);
        ALL.stay("16: within a room nothing is shut", oneRoom, x -> x.shut(0), -1);
        DUE.is("16: a room of three", oneRoom().shut(2), 0);
    }

    private static WallPlanner oneRoom() {
        WallPlanner x = Setup.withHosts(3);
        x.prices(99, 0);
        x.must(0, 1, 0, true);
        x.plan(0);
        return x;
    }

    private static WallPlanner spent() {
        WallPlanner x = Setup.withRules(12);
        x.shut(0);
        x.talk(4, 5, 0, 9, 1);
        x.plan(9);
        return x;
    }

    /** "With more than 12 that can be: SPENT"; shut: "-2: SPENT". */
    private static void spentSets() {
        for (int most = 0; most <= 8; most++) {
            int m = most;
            ALL.stay("16: thirteen, for " + most, SPENT, x -> x.shut(m), -2);
        }
        ALL.stay("16: thirteen, no such number", SPENT, x -> x.shut(-1), -1);
        ALL.stay("16: thirteen, no such number", SPENT, x -> x.shut(9), -1);
        DUE.is("16: the most rules", Setup.withRules(28).shut(0), -2);
        DUE.is("16: twelve", Setup.withRules(12).shut(0), 78);
        WallPlanner x = spent();
        x.must(2, 7, 3, true);
        DUE.is("16: twelve and a must", x.shut(0), -1);
        DUE.is("16: twelve and a must", x.shut(1), 0);
        x.must(2, 7, 3, false);
        DUE.is("16: thirteen again", x.shut(1), -2);
    }

    /** An odd() and a shut() that told 0, so nothing is left of those before. */
    private static WallPlanner emptyLists() {
        WallPlanner x = Setup.livedIn();
        x.shut(8);
        x.odd(50);
        return x;
    }

    /** shutting, oddTalk: "NONE if there is none such". */
    private static void emptyListsOfLatest() {
        for (int what = 0; what < 5; what++) {
            int w = what;
            ALL.stay("19: no odd() yet", CHAIN, x -> x.oddTalk(0, w), -1);
            ALL.stay("19: an odd() of none", EMPTY_LISTS, x -> x.oddTalk(0, w), -1);
        }
        ALL.stay("17: no shut() yet", CHAIN, x -> x.shutting(0), -1);
        ALL.stay("17: a shut() of none", EMPTY_LISTS, x -> x.shutting(0), -1);
        WallPlanner x = Setup.livedIn();
        DUE.is("16: nothing to shut", x.shut(8), 0);
        DUE.is("18: a day without talks", x.odd(50), 0);
    }

    /** place: "NONE, and nothing happens: .. it is in one". */
    private static void placeInARoom() {
        for (int host = 0; host < 5; host++) {
            int h = host;
            ALL.stay("20: it is in one", LIVED_IN, x -> x.place(h, 9), -1);
        }
        Twins.Making placed = RefusedTest::placed;
        ALL.stay("20: it has been placed", placed, x -> x.place(5, 9), -1);
        ALL.stay("20: it has been placed", placed, x -> x.place(5, 0), -1);
    }

    private static WallPlanner placed() {
        WallPlanner x = Setup.livedIn();
        x.place(5, 9);
        return x;
    }

    /** place: "NONE, and nothing happens: .. or it can be nowhere". */
    private static void placeNowhere() {
        Twins.Making toOne = () -> nowhere(5, 2, 2, 5, 3, 2);
        ALL.stay("20: a barred way by its own rule", toOne, x -> x.place(5, 9), -1);
        Twins.Making fromOne = () -> nowhere(2, 5, 2, 3, 5, 2);
        ALL.stay("20: a barred way by a rule to it", fromOne, x -> x.place(5, 9), -1);
        Twins.Making others = () -> nowhere(0, 2, 3, 1, 3, 3);
        ALL.stay("20: a barred way between others", others, x -> x.place(5, 9), -1);
        WallPlanner x = fromOne.make();
        x.bar(3, 5, 2, false);
        DUE.is("20: the same, not barred", x.place(5, 9), 3);
    }

    /** One way is a must and the other is barred, and the same rule would let them both. */
    private static WallPlanner nowhere(int from, int to, int door, int barFrom, int barTo, int barDoor) {
        WallPlanner x = Setup.livedIn();
        x.must(from, to, door, true);
        x.bar(barFrom, barTo, barDoor, true);
        return x;
    }

    private static void whatIsOnlyAsked() {
        ALL.stay("8: weight", LIVED_IN, x -> x.weight(0, 3, 0, 9), 8);
        ALL.stay("9: needed", LIVED_IN, x -> x.needed(0, 3, 0, 0), 0);
        ALL.stay("9: needed", LIVED_IN, x -> x.needed(0, 3, 0, 9), 1);
        ALL.stay("11: room", LIVED_IN, x -> x.room(4), 2);
        for (int what = 0; what < 6; what++) {
            int w = what;
            int[] rule = {1, 0, 0, 1, 5, 1};
            ALL.stay("12: rule", LIVED_IN, x -> x.rule(1, w), rule[what]);
            int[] counts = {6, 13, 3, 4, 7, 43};
            ALL.stay("21: count", LIVED_IN, x -> x.count(w), counts[what]);
        }
        ALL.stay("13: lets", LIVED_IN, x -> x.lets(0, 2, 1), 2);
        ALL.stay("14: reach", LIVED_IN, x -> x.reach(3), 4);
        ALL.stay("15: spread", LIVED_IN, x -> x.spread(0), 4);
        ALL.stay("15: spread", LIVED_IN, x -> x.spread(1), 0);
        ALL.stay("17: shutting", LIVED_IN, x -> x.shutting(1), 1);
        ALL.stay("19: oddTalk", LIVED_IN, x -> x.oddTalk(1, 3), 1);
    }

    /** shut() shuts nothing in the plan, it only tells of it; and the same once more changes nothing. */
    private static void whatIsMadeAgain() {
        ALL.stay("16: the same again", LIVED_IN, x -> x.shut(2), 18);
        ALL.stay("18: the same again", LIVED_IN, x -> x.odd(9), 3);
        ALL.stay("10: the same again", CHAIN, x -> x.plan(9), 0);
    }
}
