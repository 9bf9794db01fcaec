/** Promises 14 to 17: reach and spread, and which rules to shut. */
public final class SpreadTest {
    private static final Due DUE = new Due();

    public static void main(String[] args) {
        reachOfAChain();
        reachThroughRooms();
        firstOfSpread();
        reachOfHostsInNoRoom();
        reachOfANewPlan();
        shutWrong();
        shutTheCheapest();
        shutTheLeastNumber();
        shutTheLeastNumberNotTheFewest();
        shutByWeightsOfThen();
        shutCountsOneAtLeast();
        shutCountsNeededWaysOnly();
        shutWithMusts();
        shutSpent();
        shuttingStays();
        reachOfOthersOnce();
        reachOneWayOnly();
        spreadIsTheGreatest();
        spreadOfHostsInRooms();
        shutForWhatIsAlready();
        shutForEachNumber();
        shutWeightsOfOneAtLeast();
        shutByAStrayThatIsAMust();
        shutOfEqualSums();
        shutNumbersAreOfRules();
        shutTwelveOfMore();
        DUE.end();
    }

    private static void shuts(String what, WallPlanner x, int... due) {
        for (int k = 0; k < due.length; k++) {
            DUE.is(what + ": shutting(" + k + ")", x.shutting(k), due[k]);
        }
        DUE.is(what + ": no more", x.shutting(due.length), -1);
        DUE.is(what + ": shutting(-1)", x.shutting(-1), -1);
    }

    private static void reachOfAChain() {
        WallPlanner x = Setup.withHostsApart(8);
        for (int host = 7; host > 0; host--) {
            x.must(host, host - 1, host % 4, true);
        }
        x.plan(0);
        for (int host = 0; host < 8; host++) {
            DUE.is("14: reach(" + host + ")", x.reach(host), host);
        }
        DUE.is("15: spread(0)", x.spread(0), 7);
        DUE.is("15: spread(1)", x.spread(1), 7);
        x.must(0, 7, 0, true);
        x.plan(0);
        for (int host = 0; host < 8; host++) {
            DUE.is("14: reach in a ring", x.reach(host), 7);
        }
        DUE.is("15: the first in a ring", x.spread(1), 0);
    }

    private static void reachThroughRooms() {
        WallPlanner x = Setup.withHostsApart(4);
        Setup.mustAll(x, 1, 2);
        x.must(0, 1, 0, true);
        x.must(2, 3, 0, true);
        x.prices(10, 1);
        x.plan(0);
        DUE.is("14: 1 and 2 are in a room", x.room(2), x.room(1));
        DUE.is("14: into the room and out of it", x.reach(0), 3);
        DUE.is("14: within it and out of it", x.reach(1), 2);
        DUE.is("14: within it and out of it", x.reach(2), 2);
        DUE.is("14: nowhere", x.reach(3), 0);
    }

    private static void firstOfSpread() {
        WallPlanner x = Setup.withHostsApart(4);
        x.must(1, 2, 0, true);
        x.must(3, 2, 0, true);
        x.plan(0);
        DUE.is("15: spread(0)", x.spread(0), 1);
        DUE.is("15: spread(1)", x.spread(1), 1);
        DUE.is("15: spread(2)", x.spread(2), -1);
        DUE.is("15: spread(-1)", x.spread(-1), -1);
    }

    private static void reachOfHostsInNoRoom() {
        WallPlanner x = Setup.withHostsApart(2);
        DUE.is("14: no plan", x.reach(0), -1);
        DUE.is("15: no plan", x.spread(0), -1);
        x.must(0, 1, 0, true);
        x.plan(0);
        x.host(0);
        x.must(1, 2, 0, true);
        DUE.is("14: in no room", x.reach(2), -1);
        DUE.is("14: one in no room is not come to", x.reach(0), 1);
        DUE.is("14: no such host", x.reach(3), -1);
        DUE.is("14: no such host", x.reach(-1), -1);
        DUE.is("15: spread(0)", x.spread(0), 1);
    }

    private static void reachOfANewPlan() {
        WallPlanner x = Setup.withHostsApart(3);
        x.talk(0, 1, 0, 0, 1);
        x.talk(1, 2, 0, 0, 1);
        x.plan(0);
        DUE.is("15: with rules", x.spread(0), 2);
        x.plan(50);
        DUE.is("15: without rules", x.spread(0), 0);
        DUE.is("14: without rules", x.reach(0), 0);
        DUE.is("14: without rules", x.reach(1), 0);
    }

    private static void shutWrong() {
        WallPlanner x = Setup.withHostsApart(2);
        DUE.is("16: no plan", x.shut(0), -1);
        x.plan(0);
        DUE.is("16: no such number", x.shut(-1), -1);
        DUE.is("16: no such number", x.shut(9), -1);
        DUE.is("16: no such number", x.shut(Integer.MAX_VALUE), -1);
        DUE.is("16: without rules", x.shut(0), 0);
        shuts("17: without rules", x);
        DUE.is("16: the most", x.shut(8), 0);
    }

    private static void shutTheCheapest() {
        WallPlanner x = Setup.withHostsApart(4);
        x.talk(0, 1, 0, 0, 5);
        x.talk(1, 2, 0, 0, 6);
        x.talk(2, 3, 0, 0, 4);
        x.plan(0);
        DUE.is("16: nothing to do", x.shut(3), 0);
        shuts("17: nothing to do", x);
        DUE.is("16: for 2", x.shut(2), 4);
        shuts("17: for 2", x, 2);
        DUE.is("16: for 1", x.shut(1), 6);
        shuts("17: for 1", x, 1);
        DUE.is("16: for 0", x.shut(0), 15);
        shuts("17: for 0", x, 0, 1, 2);
        DUE.is("16: the rules are there still", x.count(3), 3);
        DUE.is("16: the spread is as it was", x.spread(0), 3);
    }

    private static void shutTheLeastNumber() {
        WallPlanner x = Setup.withHostsApart(3);
        x.talk(0, 1, 0, 0, 3);
        x.talk(1, 2, 0, 0, 3);
        x.plan(0);
        DUE.is("16: of two", x.shut(1), 3);
        shuts("17: of two the first", x, 0);
    }

    private static void shutTheLeastNumberNotTheFewest() {
        WallPlanner x = Setup.withHostsApart(3);
        x.talk(0, 1, 0, 0, 1);
        x.talk(0, 1, 1, 0, 1);
        x.talk(2, 0, 0, 0, 2);
        x.plan(0);
        DUE.is("16: two or one", x.shut(1), 2);
        shuts("17: 3 is less than 4", x, 0, 1);
    }

    private static void shutByWeightsOfThen() {
        WallPlanner x = Setup.withHostsApart(3);
        x.talk(0, 1, 0, 0, 2);
        x.talk(1, 2, 0, 0, 3);
        x.plan(0);
        x.talk(0, 1, 0, 0, 50);
        DUE.is("16: by weights of the plan", x.shut(1), 2);
        shuts("17: by weights of the plan", x, 0);
        x.plan(0);
        DUE.is("16: by weights of the new plan", x.shut(1), 3);
        shuts("17: by weights of the new plan", x, 1);
    }

    private static void shutCountsOneAtLeast() {
        WallPlanner x = Setup.withHostsApart(4);
        Setup.mustAll(x, 1, 2);
        x.must(0, 1, 0, true);
        x.must(0, 2, 0, true);
        x.talk(0, 2, 0, 0, 4);
        x.prices(50, 50);
        x.plan(0);
        DUE.is("12: the weights as they are", x.rule(0, 4), 4);
        DUE.is("12: of two ways", x.rule(0, 3), 2);
        x.must(0, 1, 0, false);
        x.must(0, 2, 0, false);
        DUE.is("16: each way for one at least", x.shut(1), 5);
        shuts("17: the one rule", x, 0);
        DUE.is("16: a room can't be shut", x.shut(0), -1);
        shuts("17: it stays", x, 0);
    }

    private static void shutCountsNeededWaysOnly() {
        WallPlanner x = Setup.withHostsApart(3);
        Setup.mustAll(x, 1, 2);
        x.law(7, 5, false);
        x.talk(0, 1, 0, 0, 5);
        x.talk(0, 2, 0, 0, 4);
        x.prices(50, 50);
        x.plan(0);
        DUE.is("21: a rule and a stray", x.count(5), 100);
        DUE.is("16: the stray counts nothing", x.shut(1), 5);
    }

    private static void shutWithMusts() {
        WallPlanner x = Setup.withHostsApart(4);
        x.talk(0, 1, 0, 0, 1);
        x.talk(1, 2, 0, 0, 9);
        x.talk(2, 3, 0, 0, 7);
        x.plan(0);
        DUE.is("16: without musts", x.shut(2), 1);
        shuts("17: without musts", x, 0);
        x.must(0, 1, 0, true);
        DUE.is("16: the first can't be", x.shut(2), 7);
        shuts("17: the first can't be", x, 2);
        DUE.is("16: the first can't be", x.shut(1), 9);
        shuts("17: the first can't be", x, 1);
        DUE.is("16: never so few", x.shut(0), -1);
        shuts("17: that of the latest that told a sum", x, 1);
        x.must(0, 1, 0, false);
        DUE.is("16: it can be again", x.shut(0), 17);
    }

    private static void shutSpent() {
        WallPlanner x = Setup.withHostsApart(8);
        for (int i = 0; i < 12; i++) {
            x.talk(i / 4, 7, i % 4, 0, 1 + i);
        }
        x.plan(0);
        DUE.is("16: twelve", x.shut(0), 78);
        shuts("17: twelve", x, 0, 1, 2, 3, 4, 5, 6, 7, 8, 9, 10, 11);
        x.talk(5, 6, 0, 0, 1);
        DUE.is("16: twelve still", x.shut(1), 0);
        x.plan(0);
        DUE.is("16: thirteen", x.shut(0), -2);
        DUE.is("16: thirteen, with nothing to do", x.shut(8), -2);
        DUE.is("16: no such number comes first", x.shut(9), -1);
        shuts("17: that of the latest that told a sum", x);
        x.must(5, 6, 0, true);
        DUE.is("16: twelve of thirteen", x.shut(1), 0);
        DUE.is("16: never so few", x.shut(0), -1);
        x.must(5, 6, 0, false);
        x.must(0, 7, 0, true);
        DUE.is("16: twelve of thirteen", x.shut(1), 0);
    }

    private static void shuttingStays() {
        WallPlanner x = Setup.withHostsApart(3);
        x.talk(0, 1, 0, 0, 9);
        x.talk(1, 2, 0, 0, 3);
        x.plan(0);
        x.shut(1);
        shuts("17: the second", x, 1);
        x.plan(50);
        DUE.is("17: no rules any more", x.count(3), 0);
        shuts("17: its number then", x, 1);
        x.shut(9);
        shuts("17: a shut of no such number", x, 1);
        x.shut(0);
        shuts("17: a sum of 0", x);
    }

    /** "to how many others one comes from it": each once, and not itself. */
    private static void reachOfOthersOnce() {
        WallPlanner x = Setup.withHostsApart(4);
        x.must(0, 1, 0, true);
        x.must(0, 2, 0, true);
        x.must(1, 3, 0, true);
        x.must(2, 3, 1, true);
        x.plan(0);
        DUE.is("14: by two ways to the same", x.reach(0), 3);
        DUE.is("14: by one", x.reach(1), 1);
        WallPlanner y = Setup.withHostsApart(2);
        y.must(0, 1, 0, true);
        y.must(0, 1, 1, true);
        y.must(1, 0, 0, true);
        y.plan(0);
        DUE.is("14: there and back", y.reach(0), 1);
        DUE.is("14: there and back", y.reach(1), 1);
    }

    private static void reachOneWayOnly() {
        for (int door = 0; door < 4; door++) {
            WallPlanner x = Setup.withHostsApart(3);
            x.must(1, 0, door, true);
            x.must(1, 2, door, true);
            x.plan(0);
            DUE.is("14: from", x.reach(1), 2);
            DUE.is("14: not back", x.reach(0), 0);
            DUE.is("14: not back", x.reach(2), 0);
        }
    }

    /** "SPREAD: the greatest"; spread: "1: the first HOST with such a REACH". */
    private static void spreadIsTheGreatest() {
        WallPlanner x = Setup.withHostsApart(5);
        x.must(0, 1, 0, true);
        x.must(2, 3, 0, true);
        x.must(3, 4, 0, true);
        x.must(4, 3, 0, true);
        x.plan(0);
        DUE.is("15: the greatest is not the first", x.spread(0), 2);
        DUE.is("15: the greatest is not the first", x.spread(1), 2);
        x.must(1, 0, 1, true);
        x.must(0, 4, 1, true);
        x.plan(0);
        DUE.is("15: the greatest of two", x.spread(0), 3);
        DUE.is("15: the first of two", x.spread(1), 0);
    }

    private static void spreadOfHostsInRooms() {
        WallPlanner x = Setup.chain();
        x.host(0);
        x.must(3, 0, 0, true);
        DUE.is("15: one in no room", x.spread(0), 2);
        DUE.is("15: one in no room", x.spread(1), 0);
        DUE.is("14: one in no room", x.reach(3), -1);
        x.place(3, 9);
        DUE.is("15: it is placed", x.spread(0), 3);
        DUE.is("15: it is placed", x.spread(1), 3);
        x.host(0);
        x.host(0);
        x.must(5, 3, 0, true);
        x.place(5, 9);
        DUE.is("15: one in no room before it", x.spread(0), 4);
        DUE.is("15: one in no room before it", x.spread(1), 5);
        DUE.is("14: one in no room before it", x.reach(4), -1);
    }

    /** "for which, were they not there, SPREAD is at most told": nothing need go if it is so already. */
    private static void shutForWhatIsAlready() {
        WallPlanner x = Setup.chain();
        for (int most = 2; most <= 8; most++) {
            DUE.is("16: it is so already", x.shut(most), 0);
            shuts("17: it is so already", x);
        }
        DUE.is("16: one less", x.shut(1), 3);
        shuts("17: one less", x, 1);
    }

    private static void shutForEachNumber() {
        WallPlanner x = Setup.withHostsApart(8);
        for (int host = 0; host < 7; host++) {
            x.talk(host, host + 1, 0, 0, 10 + host);
        }
        x.plan(0);
        int[] due = {91, 11 + 13 + 15, 11 + 14, 13, 12, 11, 10, 0, 0};
        int[][] rules = {{0, 1, 2, 3, 4, 5, 6}, {1, 3, 5}, {1, 4}, {3}, {2}, {1}, {0}, {}, {}};
        for (int most = 0; most <= 8; most++) {
            DUE.is("16: for " + most, x.shut(most), due[most]);
            shuts("17: for " + most, x, rules[most]);
        }
    }

    /** "the sum of WEIGHTS (1 at least each) of all NEEDED WAYS by its RULES". */
    private static void shutWeightsOfOneAtLeast() {
        for (int count = 0; count <= 3; count++) {
            WallPlanner x = Setup.withHostsApart(2);
            x.must(0, 1, 0, true);
            if (count > 0) {
                x.talk(0, 1, 0, 0, count);
            }
            x.plan(0);
            x.must(0, 1, 0, false);
            DUE.is("12: of weight " + count, x.rule(0, 4), count);
            DUE.is("16: of weight " + count, x.shut(0), Math.max(1, count));
        }
    }

    /** A rule lets all ways between its rooms by its door, so a must among them is by it, needed then or not. */
    private static void shutByAStrayThatIsAMust() {
        WallPlanner x = Setup.withMarks(0, 1, 1);
        Setup.mustAll(x, 1, 2);
        x.law(7, 1, true);
        x.talk(0, 1, 0, 0, 6);
        x.plan(0);
        DUE.is("16: it can be shut", x.shut(1), 6);
        x.must(0, 2, 0, true);
        DUE.is("12: it can't be", x.rule(0, 5), 0);
        DUE.is("16: it can't be", x.shut(1), -1);
        x.must(0, 2, 0, false);
        x.must(0, 2, 1, true);
        x.must(2, 0, 0, true);
        DUE.is("12: another door, and the way back", x.rule(0, 5), 1);
        DUE.is("16: another door, and the way back", x.shut(1), 6);
    }

    /** "of several the least number (bit k: the k-th of those that can be SHUT, in order)". */
    private static void shutOfEqualSums() {
        WallPlanner x = Setup.withHostsApart(3);
        x.talk(0, 1, 0, 0, 1);
        x.talk(0, 1, 1, 0, 1);
        x.talk(0, 1, 2, 0, 1);
        x.talk(2, 0, 0, 0, 3);
        x.plan(0);
        DUE.is("16: three or one", x.shut(1), 3);
        shuts("17: 7 is less than 8", x, 0, 1, 2);
        WallPlanner y = Setup.withHostsApart(6);
        y.talk(0, 1, 0, 0, 4);
        y.talk(1, 2, 0, 0, 4);
        y.talk(3, 4, 0, 0, 4);
        y.talk(4, 5, 0, 0, 4);
        y.plan(0);
        DUE.is("16: one of each chain", y.shut(1), 8);
        shuts("17: 5 is less than 6, 9, 10", y, 0, 2);
        y.must(0, 1, 0, true);
        DUE.is("16: the first can't be", y.shut(1), 8);
        shuts("17: the others in order", y, 1, 2);
    }

    /** shutting tells numbers of rules, not of those that can be shut. */
    private static void shutNumbersAreOfRules() {
        WallPlanner x = Setup.withRules(12);
        for (int i = 0; i < 12; i += 2) {
            x.must(i / 4, 7, i % 4, true);
        }
        x.must(0, 7, 0, false);
        x.must(0, 7, 2, false);
        DUE.is("16: host 0 is shut out, the others can't be", x.shut(0), -1);
        DUE.is("16: nothing to do", x.shut(1), 0);
        for (int i = 4; i < 12; i += 2) {
            x.must(i / 4, 7, i % 4, false);
        }
        x.must(0, 7, 0, true);
        x.talk(7, 3, 0, 9, 2);
        x.plan(9);
        DUE.is("12: the first can't be", x.rule(0, 5), 0);
        DUE.is("16: from 0 by 7 to 3", x.shut(1), 2);
        shuts("17: the last rule", x, 12);
    }

    /** "With more than 12 that can be: SPENT": those that can't be don't count. */
    private static void shutTwelveOfMore() {
        WallPlanner x = Setup.withRules(28);
        for (int i = 0; i < 16; i++) {
            DUE.is("16: more than 12, " + i + " musts", x.shut(1), -2);
            x.must(i / 4, 7, i % 4, true);
        }
        DUE.is("16: twelve", x.shut(1), 0);
        DUE.is("16: twelve, no such set", x.shut(0), -1);
        x.must(4, 7, 0, true);
        DUE.is("16: eleven", x.shut(1), 0);
    }
}
