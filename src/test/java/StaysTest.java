/**
 * What stays as it was made: the plan "till another is made", the cost "by the prices of then", the rules of the
 * latest shut() by their "number then", the talks of the latest odd() "as it was then"; and what is of now instead.
 */
public final class StaysTest {
    private static final Due DUE = new Due();
    private static final Twins PLAN = Twins.ofThePlan(DUE);
    private static final Twins LISTS = Twins.ofLists(DUE);
    private static final Twins.Making LIVED_IN = Setup::livedIn;
    private static final Twins.Making PLACED = StaysTest::placed;

    public static void main(String[] args) {
        planStaysWhenTold();
        planStaysWhenAsked();
        planStaysTillPlanned();
        planStaysTillPlaced();
        placedPlanStays();
        needsAndWeightsOfThen();
        barsOfThen();
        strictOfThen();
        pricesOfThen();
        mustsOfNow();
        listsStay();
        shuttingOfTheLatestThatToldASum();
        shuttingNumbersOfThen();
        oddOfTheLatestThatWasNotNone();
        nearAsItWasThen();
        oddOfHostsPlacedSince();
        DUE.end();
    }

    private static int asInt(boolean yes) {
        return yes ? 1 : 0;
    }

    private static WallPlanner placed() {
        WallPlanner x = Setup.livedIn();
        x.place(5, 9);
        return x;
    }

    private static void rooms(String what, WallPlanner x, int... due) {
        for (int host = 0; host < due.length; host++) {
            DUE.is(what + ": room(" + host + ")", x.room(host), due[host]);
        }
    }

    private static void counts(String what, WallPlanner x, int... due) {
        for (int i = 0; i < due.length; i++) {
            DUE.is(what + ": count(" + (2 + i) + ")", x.count(2 + i), due[i]);
        }
    }

    private static void rule(String what, WallPlanner x, int k, int... due) {
        for (int i = 0; i < due.length; i++) {
            DUE.is(what + ": rule(" + k + ", " + i + ")", x.rule(k, i), due[i]);
        }
    }

    /** "The PLAN stays as it was made (with what was NEEDED then, its RULES and WEIGHTS)". */
    private static void planStaysWhenTold() {
        tellOfAll("11 to 15, 21: the plan", PLAN, LIVED_IN, 14, 6);
    }

    private static void placedPlanStays() {
        tellOfAll("11 to 15, 21: the plan with one placed", PLAN, PLACED, 14, 6);
    }

    private static void tellOfAll(String what, Twins twins, Twins.Making making, int nextTalk, int nextHost) {
        twins.stay(what + ", a host", making, x -> x.host(0), nextHost);
        twins.stay(what + ", talk by a rule", making, x -> x.talk(0, 2, 1, 9, 999), nextTalk);
        twins.stay(what + ", talk by no rule", making, x -> x.talk(2, 1, 3, 9, 999), nextTalk);
        twins.stay(what + ", a stray is a must", making, x -> asInt(x.must(0, 3, 1, true)), 1);
        twins.stay(what + ", what is not let is a must", making, x -> asInt(x.must(0, 4, 1, true)), 1);
        twins.stay(what + ", no must in a room", making, x -> asInt(x.must(0, 1, 0, false)), 1);
        twins.stay(what + ", no must by a rule", making, x -> asInt(x.must(3, 4, 2, false)), 1);
        twins.stay(what + ", a stray is barred", making, x -> asInt(x.bar(0, 3, 1, true)), 1);
        twins.stay(what + ", what is needed is barred", making, x -> asInt(x.bar(1, 3, 1, true)), 1);
        twins.stay(what + ", barred no more", making, x -> asInt(x.bar(4, 1, 0, false)), 1);
        twins.stay(what + ", a wide law", making, x -> asInt(x.law(100, 1, false)), 1);
        twins.stay(what + ", a narrow law", making, x -> asInt(x.law(1, 9999, true)), 1);
        twins.stay(what + ", all for nothing", making, x -> asInt(x.prices(0, 0)), 1);
        twins.stay(what + ", all dear", making, x -> asInt(x.prices(99, 99)), 1);
    }

    private static void planStaysWhenAsked() {
        PLAN.stay("16: shut", LIVED_IN, x -> x.shut(2), 18);
        PLAN.stay("16: shut nothing", LIVED_IN, x -> x.shut(8), 0);
        PLAN.stay("16: no such set", LIVED_IN, x -> x.shut(0), -1);
        PLAN.stay("18: odd", LIVED_IN, x -> x.odd(9), 3);
        PLAN.stay("18: odd", LIVED_IN, x -> x.odd(0), 1);
        PLAN.stay("10: no such day", LIVED_IN, x -> x.plan(100), -1);
        PLAN.stay("20: no such day", LIVED_IN, x -> x.place(5, 100), -1);
    }

    /** "till another is made". */
    private static void planStaysTillPlanned() {
        WallPlanner x = Setup.livedIn();
        DUE.is("10: another", x.plan(0), 12);
        rooms("10: another", x, 0, 0, 1, 1, 2, 3);
        counts("10: another", x, 4, 2, 2, 12);
        rule("10: another", x, 0, 0, 2, 0, 1, 6, 1);
        rule("10: another", x, 1, 1, 2, 2, 1, 0, 0);
        rule("10: another", x, 2, -1, -1, -1, -1, -1, -1);
        DUE.is("13: let no more", x.lets(0, 2, 1), 0);
        DUE.is("13: let now", x.lets(1, 4, 0), 2);
        DUE.is("14: by the new one", x.reach(0), 2);
        DUE.is("15: by the new one", x.spread(0), 2);
    }

    /** place: "Then what was NEEDED, RULES, WEIGHTS are those of this DAY. (The ROOMS' numbers stay.)" */
    private static void planStaysTillPlaced() {
        WallPlanner x = placed();
        rooms("20: placed", x, 0, 0, 1, 1, 2, 3);
        counts("20: placed", x, 4, 7, 11, 7 * 4 + 11 * 2);
        rule("20: placed", x, 0, 0, 1, 0, 1, 8, 1);
        rule("20: placed", x, 1, 0, 1, 1, 2, 8, 1);
        rule("20: placed", x, 2, 1, 0, 0, 1, 5, 1);
        rule("20: placed", x, 3, 1, 2, 2, 1, 7, 0);
        rule("20: placed", x, 4, 2, 0, 3, 1, 3, 1);
        rule("20: placed", x, 5, 2, 3, 0, 1, 9, 1);
        rule("20: placed", x, 6, 3, 0, 0, 1, 2, 1);
        rule("20: placed", x, 7, -1, -1, -1, -1, -1, -1);
    }

    /** "with what was NEEDED then, its RULES and WEIGHTS": shown by the sums of rule() and shut(). */
    private static void needsAndWeightsOfThen() {
        WallPlanner x = Setup.chain();
        x.talk(1, 2, 0, 9, 900);
        x.bar(0, 1, 0, true);
        x.law(1, 9999, false);
        rule("12: of then", x, 0, 0, 1, 0, 1, 5, 1);
        rule("12: of then", x, 1, 1, 2, 0, 1, 3, 1);
        DUE.is("16: weights of then", x.shut(1), 3);
        DUE.is("17: weights of then", x.shutting(0), 1);
        DUE.is("16: weights of then", x.shut(0), 8);
    }

    /** A way barred since is let still, till another plan. */
    private static void barsOfThen() {
        WallPlanner x = Setup.chain();
        x.bar(0, 1, 0, true);
        DUE.is("13: let still", x.lets(0, 1, 0), 2);
        DUE.is("14: let still", x.reach(0), 2);
        DUE.is("18: let still", x.odd(9), 0);
        x.plan(9);
        DUE.is("13: let no more", x.lets(0, 1, 0), 0);
        DUE.is("14: let no more", x.reach(0), 0);
        DUE.is("18: let no more", x.odd(9), 1);
    }

    private static void strictOfThen() {
        WallPlanner x = Setup.withMarks(0, 1);
        Setup.mustAll(x, 0, 1);
        x.plan(9);
        x.law(7, 1, true);
        rooms("11: in one room still", x, 0, 0);
        DUE.is("13: let still", x.lets(0, 1, 0), 1);
        x.plan(9);
        rooms("11: apart", x, 0, 1);
    }

    /** count: "the COST as it is (by the prices of then ..)". */
    private static void pricesOfThen() {
        WallPlanner x = Setup.withHosts(2);
        x.must(0, 1, 0, true);
        DUE.is("10: a rule", x.plan(0), 5);
        x.prices(7, 1);
        DUE.is("21: by the prices of then", x.count(5), 5);
        DUE.is("21: apart still", x.count(2), 2);
        x.plan(100);
        DUE.is("21: no other plan", x.count(5), 5);
        x.plan(0);
        DUE.is("21: another plan", x.count(5), 7);
        DUE.is("21: strays, and no rule", x.count(4), 7);
        x.prices(99, 99);
        x.host(0);
        DUE.is("20: no such day", x.place(2, 100), -1);
        DUE.is("21: by the prices of then", x.count(5), 7);
        DUE.is("20: alone", x.place(2, 0), 1);
        DUE.is("21: by the prices of the place", x.count(5), 7 * 99);
        x.prices(0, 0);
        DUE.is("21: by the prices of the place", x.count(5), 7 * 99);
    }

    /** "those can be for which no MUST (as it is told then) is by them"; rule: "whether it can be SHUT now". */
    private static void mustsOfNow() {
        WallPlanner x = Setup.chain();
        DUE.is("12: can be", x.rule(0, 5), 1);
        DUE.is("16: both can be", x.shut(0), 8);
        x.must(0, 1, 0, true);
        DUE.is("12: can't be now", x.rule(0, 5), 0);
        DUE.is("12: the other can", x.rule(1, 5), 1);
        DUE.is("16: one can be", x.shut(0), -1);
        DUE.is("16: one can be", x.shut(1), 3);
        x.plan(9);
        x.must(0, 1, 0, false);
        DUE.is("12: can be again", x.rule(0, 5), 1);
        DUE.is("16: both can be again", x.shut(0), 8);
    }

    private static void listsStay() {
        tellOfAll("17, 19: the lists", LISTS, LIVED_IN, 14, 6);
        LISTS.stay("17, 19: a new plan", LIVED_IN, x -> x.plan(9), 50);
        LISTS.stay("17, 19: a new plan", LIVED_IN, x -> x.plan(0), 12);
        LISTS.stay("17, 19: no such plan", LIVED_IN, x -> x.plan(100), -1);
        LISTS.stay("17, 19: one is placed", LIVED_IN, x -> x.place(5, 9), 3);
        LISTS.stay("17, 19: one is placed", LIVED_IN, x -> x.place(5, 0), 3);
        LISTS.stay("17, 19: no such place", LIVED_IN, x -> x.place(5, 100), -1);
        LISTS.stay("17, 19: no such number", LIVED_IN, x -> x.shut(9), -1);
        LISTS.stay("17, 19: no such set", LIVED_IN, x -> x.shut(0), -1);
        LISTS.stay("17, 19: no such day", LIVED_IN, x -> x.odd(100), -1);
    }

    /** shutting: "of the latest shut() that told a sum". */
    private static void shuttingOfTheLatestThatToldASum() {
        WallPlanner x = Setup.chain();
        x.shut(0);
        DUE.is("17: two", x.shutting(1), 1);
        x.shut(1);
        DUE.is("17: the later one", x.shutting(0), 1);
        DUE.is("17: the later one has one", x.shutting(1), -1);
        x.must(1, 2, 0, true);
        DUE.is("16: no such set", x.shut(0), -1);
        DUE.is("17: not of one that told NONE", x.shutting(0), 1);
        DUE.is("16: no such number", x.shut(-1), -1);
        DUE.is("17: not of one that told NONE", x.shutting(0), 1);
        DUE.is("16: a sum of 0", x.shut(2), 0);
        DUE.is("17: a sum of 0 is a sum", x.shutting(0), -1);
    }

    /** shutting: "(its number then)". */
    private static void shuttingNumbersOfThen() {
        WallPlanner x = Setup.chain();
        x.shut(1);
        DUE.is("17: the second rule", x.shutting(0), 1);
        x.talk(0, 1, 3, 9, 1);
        x.plan(9);
        rule("12: the second is another one now", x, 1, 0, 1, 3);
        DUE.is("17: its number then", x.shutting(0), 1);
        x.plan(99);
        DUE.is("12: there are none now", x.rule(0, 0), -1);
        DUE.is("17: its number then", x.shutting(0), 1);
        DUE.is("16: nothing to shut", x.shut(0), 0);
        DUE.is("17: nothing was shut", x.shutting(0), -1);
    }

    /** oddTalk: "of the latest odd() that was not NONE". */
    private static void oddOfTheLatestThatWasNotNone() {
        WallPlanner x = Setup.livedIn();
        DUE.is("18: another day", x.odd(99), 1);
        DUE.is("19: of that day", x.oddTalk(0, 3), 7);
        DUE.is("19: the day before has more", x.oddTalk(1, 3), -1);
        DUE.is("18: no such day", x.odd(-1), -1);
        DUE.is("19: not of one that was NONE", x.oddTalk(0, 3), 7);
        DUE.is("18: no such day", x.odd(100), -1);
        DUE.is("19: not of one that was NONE", x.oddTalk(0, 3), 7);
        DUE.is("18: none", x.odd(98), 0);
        DUE.is("19: 0 is not NONE", x.oddTalk(0, 3), -1);
    }

    /** oddTalk: "as it was then". */
    private static void nearAsItWasThen() {
        WallPlanner x = Setup.chain();
        x.talk(0, 1, 2, 20, 4);
        DUE.is("18: odd", x.odd(20), 1);
        DUE.is("19: near", x.oddTalk(0, 4), 1);
        x.plan(50);
        DUE.is("12: no rules", x.count(3), 0);
        DUE.is("19: near as it was then", x.oddTalk(0, 4), 1);
        DUE.is("18: odd still", x.odd(20), 1);
        DUE.is("19: not near now", x.oddTalk(0, 4), 0);
        x.plan(20);
        DUE.is("13: let now", x.lets(0, 1, 2), 2);
        DUE.is("19: odd as it was then", x.oddTalk(0, 3), 4);
        DUE.is("18: odd no more", x.odd(20), 0);
    }

    private static void oddOfHostsPlacedSince() {
        WallPlanner x = Setup.chain();
        x.host(0);
        x.talk(3, 0, 0, 20, 4);
        x.talk(0, 3, 0, 21, 4);
        DUE.is("18: of one in no room", x.odd(20), 1);
        DUE.is("20: placed", x.place(3, 20), 3);
        DUE.is("19: as it was then", x.oddTalk(0, 0), 3);
        DUE.is("19: near as it was then", x.oddTalk(0, 4), 0);
        DUE.is("18: let now", x.odd(20), 0);
        DUE.is("18: the way back", x.odd(21), 1);
        DUE.is("19: this door the other way", x.oddTalk(0, 4), 2);
    }
}
