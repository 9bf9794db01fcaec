/** Promises 10 to 13 and 21: plans, their rooms and rules, what they let, and counts. */
public final class PlanTest {
    private static final Due DUE = new Due();

    public static void main(String[] args) {
        wrongDays();
        apartOrTogether();
        firstOfEqualRooms();
        barredWithinARoom();
        barredByARule();
        strictApart();
        firstOfManyEqualRooms();
        rulesInOrder();
        ruleSums();
        ruleCanBeShut();
        planStays();
        planIsMadeAnew();
        letWays();
        counts();
        eightHosts();
        weightsAreSums();
        allTalks();
        allRules();
        eachHostIsInARoom();
        allIsLetWithinARoom();
        oneDoorOneWay();
        eachBarredWayWithinARoom();
        eachBarredWayByARule();
        strictByMarks();
        straysAreCounted();
        firstOfSeveralPlans();
        dearerByOne();
        roomsByTheirLeastHosts();
        rulesByRoomsNotHosts();
        DUE.end();
    }

    private static void rooms(String what, WallPlanner x, int... due) {
        for (int host = 0; host < due.length; host++) {
            DUE.is(what + ": room(" + host + ")", x.room(host), due[host]);
        }
    }

    private static void wrongDays() {
        WallPlanner x = Setup.withMarks();
        DUE.is("10: no hosts", x.plan(0), -1);
        x.host(2);
        DUE.is("10: no such day", x.plan(-1), -1);
        DUE.is("10: no such day", x.plan(100), -1);
        DUE.is("10: there is no plan yet", x.count(5), -1);
        DUE.is("11: in no room yet", x.room(0), -1);
        DUE.is("10: one host", x.plan(99), 0);
        rooms("11: one host", x, 0);
        DUE.is("11: no such host", x.room(1), -1);
        DUE.is("11: no such host", x.room(-1), -1);
        DUE.is("11: no such host", x.room(8), -1);
        DUE.is("21: one room", x.count(2), 1);
        x.host(2);
        DUE.is("10: no such day", x.plan(100), -1);
        DUE.is("10: the plan stays", x.count(5), 0);
        DUE.is("11: the new host is in none", x.room(1), -1);
    }

    private static void apartOrTogether() {
        int[] due = {0, 5, 6, 5, 4, 3, 2, 1, 0};
        for (int ways = 0; ways <= 8; ways++) {
            WallPlanner x = Setup.withMarks(0, 0);
            for (int i = 0; i < ways; i++) {
                x.talk(i % 2, 1 - i % 2, i / 2, 3, 1);
            }
            DUE.is("10: two hosts, ways " + ways, x.plan(3), due[ways]);
            rooms("10: two hosts, ways " + ways, x, 0, ways < 2 ? 1 : 0);
        }
    }

    private static void firstOfEqualRooms() {
        WallPlanner x = Setup.withMarks(0, 0);
        x.must(0, 1, 0, true);
        x.prices(7, 1);
        DUE.is("10: apart as dear as together", x.plan(0), 7);
        rooms("10: the first of equals", x, 0, 0);
        x.prices(6, 1);
        DUE.is("10: apart is cheaper", x.plan(0), 6);
        rooms("10: apart", x, 0, 1);
    }

    private static void barredWithinARoom() {
        WallPlanner x = Setup.withMarks(0, 0);
        x.must(0, 1, 0, true);
        x.must(0, 1, 1, true);
        DUE.is("10: together", x.plan(0), 6);
        x.bar(1, 0, 3, true);
        DUE.is("10: not with what is barred", x.plan(0), 10);
        rooms("10: not with what is barred", x, 0, 1);
        DUE.is("13: the barred way", x.lets(1, 0, 3), 0);
    }

    private static void barredByARule() {
        WallPlanner x = Setup.withMarks(0, 0, 0);
        Setup.mustAll(x, 1, 2);
        x.must(0, 1, 0, true);
        x.prices(5, 2);
        DUE.is("10: one rule, one stray", x.plan(0), 7);
        rooms("10: one rule, one stray", x, 0, 1, 1);
        x.bar(0, 2, 0, true);
        x.prices(5, 99);
        DUE.is("10: nine rules", x.plan(0), 45);
        rooms("10: nine rules", x, 0, 1, 2);
        DUE.is("13: the barred way", x.lets(0, 2, 0), 0);
        x.bar(0, 2, 0, false);
        x.bar(0, 2, 1, true);
        DUE.is("10: another door barred", x.plan(0), 45);
        x.prices(20, 99);
        DUE.is("10: another door barred, rules dear", x.plan(0), 119);
        rooms("10: another door barred, rules dear", x, 0, 1, 1);
    }

    private static void strictApart() {
        WallPlanner x = Setup.withMarks(0, 1, 0);
        Setup.mustAll(x, 0, 1);
        DUE.is("10: together", x.plan(0), 0);
        rooms("10: together", x, 0, 0, 1);
        x.law(7, 1, true);
        DUE.is("10: strict", x.plan(0), 40);
        rooms("10: strict", x, 0, 1, 2);
        x.prices(0, 0);
        DUE.is("10: strict, all for nothing", x.plan(0), 0);
        rooms("10: strict, all for nothing", x, 0, 1, 0);
    }

    private static void firstOfManyEqualRooms() {
        WallPlanner x = Setup.withMarks(0, 1, 2, 0, 1);
        x.prices(0, 0);
        x.plan(0);
        rooms("10: all are equal", x, 0, 0, 0, 0, 0);
        x.bar(0, 2, 0, true);
        x.plan(0);
        rooms("10: 0 and 2 apart", x, 0, 0, 1, 0, 0);
        x.law(7, 1, true);
        x.plan(0);
        rooms("10: strict", x, 0, 1, 2, 0, 1);
        x.bar(4, 1, 3, true);
        x.plan(0);
        rooms("10: 1 and 4 apart", x, 0, 1, 2, 0, 3);
    }

    private static void rulesInOrder() {
        WallPlanner x = Setup.withMarks(0, 0, 0, 0);
        x.prices(0, 99);
        int[][] due = {{0, 1, 3}, {0, 3, 0}, {1, 0, 0}, {1, 0, 2}, {1, 2, 1}, {3, 0, 0}, {3, 2, 0}};
        for (int i = due.length - 1; i >= 0; i--) {
            x.talk(due[i][0], due[i][1], due[i][2], 1, 1 + i);
        }
        DUE.is("10: rules for nothing", x.plan(1), 0);
        DUE.is("21: rules", x.count(3), due.length);
        for (int k = 0; k < due.length; k++) {
            for (int what = 0; what < 3; what++) {
                DUE.is("12: rule(" + k + ", " + what + ")", x.rule(k, what), due[k][what]);
            }
            DUE.is("12: rule(" + k + ", 3)", x.rule(k, 3), 1);
            DUE.is("12: rule(" + k + ", 4)", x.rule(k, 4), 1 + k);
            DUE.is("12: rule(" + k + ", 5)", x.rule(k, 5), 1);
            DUE.is("12: rule(" + k + ", 6)", x.rule(k, 6), -1);
            DUE.is("12: rule(" + k + ", -1)", x.rule(k, -1), -1);
        }
        for (int what = 0; what < 6; what++) {
            DUE.is("12: no such rule", x.rule(due.length, what), -1);
            DUE.is("12: no such rule", x.rule(-1, what), -1);
            DUE.is("12: no such rule", x.rule(Integer.MAX_VALUE, what), -1);
        }
    }

    /** Hosts 0, 1 in room 0 and 2, 3 in room 1, with rules of several ways between them. */
    private static WallPlanner twoRooms() {
        WallPlanner x = Setup.withMarks(0, 0, 1, 1);
        Setup.mustAll(x, 0, 1);
        Setup.mustAll(x, 2, 3);
        x.law(7, 3, true);
        x.prices(9, 1);
        x.talk(0, 2, 1, 5, 4);
        x.talk(1, 3, 1, 5, 6);
        x.talk(1, 2, 1, 5, 2);
        x.must(2, 0, 0, true);
        return x;
    }

    private static void ruleSums() {
        WallPlanner x = twoRooms();
        DUE.is("10: two rooms", x.plan(5), 2 * 9 + 2 + 3);
        rooms("10: two rooms", x, 0, 0, 1, 1);
        DUE.is("21: strays", x.count(4), 5);
        DUE.is("12: needed ways", x.rule(0, 3), 2);
        DUE.is("12: what is not needed has no weight in it", x.rule(0, 4), 10);
        DUE.is("12: a must without talks", x.rule(1, 3), 1);
        DUE.is("12: a must without talks", x.rule(1, 4), 0);
    }

    private static void ruleCanBeShut() {
        WallPlanner x = twoRooms();
        x.plan(5);
        DUE.is("12: can be shut", x.rule(0, 5), 1);
        DUE.is("12: a must is by it", x.rule(1, 5), 0);
        x.must(1, 2, 1, true);
        DUE.is("12: a stray has become a must", x.rule(0, 5), 0);
        x.must(1, 2, 1, false);
        DUE.is("12: and is none any more", x.rule(0, 5), 1);
        x.must(1, 2, 2, true);
        DUE.is("12: a must by another door", x.rule(0, 5), 1);
        x.must(2, 0, 0, false);
        DUE.is("12: no must any more", x.rule(1, 5), 1);
    }

    private static void planStays() {
        WallPlanner x = twoRooms();
        x.plan(5);
        x.talk(0, 2, 1, 5, 100);
        x.talk(3, 0, 3, 5, 100);
        x.must(0, 3, 2, true);
        x.must(2, 0, 0, false);
        x.bar(1, 3, 1, true);
        x.bar(2, 0, 0, true);
        x.law(1, 9999, false);
        x.prices(50, 50);
        x.host(3);
        rooms("11: the plan stays", x, 0, 0, 1, 1, -1);
        DUE.is("21: rooms stay", x.count(2), 2);
        DUE.is("21: rules stay", x.count(3), 2);
        DUE.is("21: strays stay", x.count(4), 5);
        DUE.is("21: the cost stays", x.count(5), 23);
        DUE.is("12: weights stay", x.rule(0, 4), 10);
        DUE.is("12: needed ways stay", x.rule(0, 3), 2);
        DUE.is("12: needed ways stay", x.rule(1, 3), 1);
        DUE.is("13: let still", x.lets(1, 3, 1), 2);
        DUE.is("13: let still", x.lets(2, 0, 0), 2);
        DUE.is("13: not let yet", x.lets(0, 3, 2), 0);
        DUE.is("13: in no room", x.lets(0, 4, 2), -1);
    }

    private static void planIsMadeAnew() {
        WallPlanner x = twoRooms();
        x.plan(5);
        x.host(3);
        DUE.is("10: on another day", x.plan(20), 9 + 3);
        rooms("10: on another day", x, 0, 0, 1, 1, 2);
        DUE.is("21: rules", x.count(3), 1);
        DUE.is("12: the rule", x.rule(0, 0), 1);
        DUE.is("12: no second one", x.rule(1, 0), -1);
    }

    private static void letWays() {
        WallPlanner x = twoRooms();
        DUE.is("13: no plan", x.lets(0, 1, 0), -1);
        x.plan(5);
        DUE.is("13: within a room", x.lets(0, 1, 3), 1);
        DUE.is("13: within a room", x.lets(3, 2, 0), 1);
        DUE.is("13: needed, by a rule", x.lets(0, 2, 1), 2);
        DUE.is("13: a stray, by a rule", x.lets(0, 3, 1), 2);
        DUE.is("13: another door", x.lets(0, 2, 0), 0);
        DUE.is("13: the way back", x.lets(2, 0, 1), 0);
        DUE.is("13: to itself", x.lets(0, 0, 1), -1);
        DUE.is("13: no such host", x.lets(0, 4, 1), -1);
        DUE.is("13: no such host", x.lets(-1, 0, 1), -1);
        DUE.is("13: no such door", x.lets(0, 1, 4), -1);
        DUE.is("13: no such door", x.lets(0, 1, -1), -1);
    }

    private static void counts() {
        WallPlanner x = twoRooms();
        DUE.is("21: no plan", x.count(5), -1);
        x.plan(5);
        x.host(0);
        int[] due = {5, 3, 2, 2, 5, 23};
        for (int what = 0; what < due.length; what++) {
            DUE.is("21: count(" + what + ")", x.count(what), due[what]);
        }
        DUE.is("21: count(-1)", x.count(-1), -1);
        DUE.is("21: count(6)", x.count(6), -1);
        DUE.is("21: count(least int)", x.count(Integer.MIN_VALUE), -1);
    }

    private static void eightHosts() {
        WallPlanner x = Setup.withMarks(0, 1, 2, 3, 0, 1, 2, 3);
        for (int host = 0; host < 4; host++) {
            Setup.mustAll(x, host, host + 4);
        }
        DUE.is("10: four pairs", x.plan(0), 0);
        rooms("10: four pairs", x, 0, 1, 2, 3, 0, 1, 2, 3);
        for (int from = 0; from < 8; from++) {
            for (int to = 0; to < from; to++) {
                Setup.mustAll(x, from, to);
            }
        }
        DUE.is("10: all with all", x.plan(0), 0);
        rooms("10: all with all", x, 0, 0, 0, 0, 0, 0, 0, 0);
        for (int host = 1; host < 8; host++) {
            x.must(host, 0, 0, false);
            x.bar(host, 0, 0, true);
        }
        x.law(1, 1, true);
        DUE.is("10: 0 alone, the others by marks", x.plan(0), 5 * (4 * 4 + 4 * 3 + 4 * 3 * 4));
        rooms("10: 0 alone, the others by marks", x, 0, 1, 2, 3, 4, 1, 2, 3);
    }

    private static void weightsAreSums() {
        WallPlanner x = Setup.withMarks(0, 0);
        x.law(3, 6, false);
        x.talk(0, 1, 2, 3, 100);
        x.talk(0, 1, 2, 4, 1);
        x.talk(0, 1, 2, 5, 2);
        x.talk(0, 1, 2, 6, 3);
        x.talk(0, 1, 2, 7, 100);
        DUE.is("10: the least is reached by three days", x.plan(6), 5);
        DUE.is("12: the sum of three days", x.rule(0, 4), 6);
    }

    private static void allTalks() {
        WallPlanner x = Setup.withMarks(0, 0);
        x.law(100, 9999, false);
        for (int i = 0; i < 300; i++) {
            x.talk(0, 1, 3, i % 100, 999);
        }
        DUE.is("10: with all talks", x.plan(99), 5);
        DUE.is("12: with all talks", x.rule(0, 4), 299700);
        DUE.is("10: ten days", x.plan(9), 5);
        DUE.is("12: ten days", x.rule(0, 4), 29970);
        DUE.is("10: three days", x.plan(2), 0);
    }

    private static void allRules() {
        WallPlanner x = Setup.withMarks(0, 0, 0, 1, 1, 2, 2);
        x.plan(0);
        x.host(3);
        for (int from = 0; from < 8; from++) {
            for (int to = 0; to < from; to++) {
                Setup.mustAll(x, from, to);
            }
        }
        x.law(7, 1, true);
        DUE.is("20: the eighth room", x.place(7, 0), 7);
        DUE.is("21: all rules", x.count(3), 224);
        DUE.is("21: all rules", x.count(5), 5 * 224);
        DUE.is("12: the last", x.rule(223, 0), 7);
        DUE.is("12: the last", x.rule(223, 1), 6);
        DUE.is("12: the last", x.rule(223, 2), 3);
        DUE.is("12: no more", x.rule(224, 0), -1);
        DUE.is("14: with all rules", x.reach(0), 7);
        DUE.is("16: none can be shut", x.shut(7), 0);
        DUE.is("16: none can be shut", x.shut(6), -1);
    }

    /** "each HOST is in a ROOM"; "ROOMS are numbered from 0 on". */
    private static void eachHostIsInARoom() {
        for (int hosts = 1; hosts <= 8; hosts++) {
            WallPlanner x = Setup.withHosts(hosts);
            x.must(0, 1, 0, true);
            x.plan(0);
            for (int host = 0; host < 8; host++) {
                DUE.is("11: of " + hosts + " hosts, host " + host, x.room(host), host < hosts ? host : -1);
            }
            DUE.is("21: rooms of " + hosts, x.count(2), hosts);
        }
    }

    /** "Within a ROOM all WAYS are LET." */
    private static void allIsLetWithinARoom() {
        WallPlanner x = Setup.withMarks(0, 1);
        x.must(0, 1, 0, true);
        x.prices(99, 1);
        x.plan(0);
        for (int way = 0; way < 8; way++) {
            DUE.is("13: within a room", x.lets(way % 2, 1 - way % 2, way / 2), 1);
        }
        DUE.is("21: no rule within a room", x.count(3), 0);
    }

    /** "Between two ROOMS there is a RULE for a DOOR, the one way". */
    private static void oneDoorOneWay() {
        for (int needed = 0; needed < 8; needed++) {
            WallPlanner x = Setup.withHostsApart(2);
            x.must(needed % 2, 1 - needed % 2, needed / 2, true);
            x.plan(0);
            DUE.is("21: one rule", x.count(3), 1);
            DUE.is("12: its first room", x.rule(0, 0), needed % 2);
            DUE.is("12: its second room", x.rule(0, 1), 1 - needed % 2);
            DUE.is("12: its door", x.rule(0, 2), needed / 2);
            for (int way = 0; way < 8; way++) {
                DUE.is("13: by this rule alone", x.lets(way % 2, 1 - way % 2, way / 2), way == needed ? 2 : 0);
            }
        }
    }

    /** "No WAY that is BARRED may be LET": any one of them keeps the two apart, however dear it is. */
    private static void eachBarredWayWithinARoom() {
        for (int barred = 1; barred < 8; barred++) {
            WallPlanner x = Setup.withHosts(2);
            x.must(0, 1, 0, true);
            x.prices(99, 0);
            DUE.is("10: nothing barred", x.plan(0), 0);
            DUE.yes("5: barred", x.bar(barred % 2, 1 - barred % 2, barred / 2, true));
            DUE.is("10: a way barred", x.plan(0), 99);
            rooms("10: a way barred", x, 0, 1);
            x.bar(barred % 2, 1 - barred % 2, barred / 2, false);
            DUE.is("10: barred no more", x.plan(0), 0);
        }
    }

    /** The one of two in a room may not be come to by a rule that the other needs: the same door and way alone. */
    private static void eachBarredWayByARule() {
        for (int way = 0; way < 8; way++) {
            WallPlanner x = Setup.withMarks(0, 1, 1);
            x.law(7, 1, true);
            Setup.mustAll(x, 1, 2);
            x.must(0, 1, 1, true);
            x.prices(5, 0);
            DUE.is("10: nothing barred", x.plan(0), 5);
            boolean same = way == 2;
            x.bar(way % 2 == 0 ? 0 : 2, way % 2 == 0 ? 2 : 0, way / 2, true);
            DUE.is("10: a way barred, " + way, x.plan(0), same ? 45 : 5);
            rooms("10: a way barred, " + way, x, 0, 1, same ? 2 : 1);
        }
    }

    /** "if STRICT, HOSTS of unlike MARKS aren't in one ROOM". */
    private static void strictByMarks() {
        for (int marks = 0; marks < 16; marks++) {
            WallPlanner x = Setup.withMarks(marks / 4, marks % 4);
            x.prices(0, 0);
            x.plan(0);
            rooms("10: not strict", x, 0, 0);
            x.law(7, 1, true);
            x.plan(0);
            rooms("10: strict, marks " + marks / 4 + ", " + marks % 4, x, 0, marks / 4 == marks % 4 ? 0 : 1);
            x.law(7, 1, false);
            x.plan(0);
            rooms("10: not strict again", x, 0, 0);
        }
    }

    /** "STRAYS: WAYS that are LET and not NEEDED", within a room and by a rule. */
    private static void straysAreCounted() {
        WallPlanner x = Setup.withMarks(0, 0, 1, 1);
        x.law(7, 1, true);
        x.prices(30, 1);
        x.must(0, 1, 0, true);
        x.must(2, 3, 0, true);
        x.must(0, 2, 0, true);
        DUE.is("10: 7 and 7 within rooms, 3 by a rule", x.plan(0), 30 + 17);
        DUE.is("21: strays", x.count(4), 17);
        x.must(1, 3, 0, true);
        DUE.is("10: one fewer", x.plan(0), 30 + 16);
        DUE.is("21: strays", x.count(4), 16);
    }

    /** "of several the first by the ROOMS of HOSTS 0, 1, 2, .. in turn". */
    private static void firstOfSeveralPlans() {
        WallPlanner x = Setup.withHosts(3);
        x.prices(30, 1);
        x.must(0, 1, 0, true);
        x.must(0, 2, 0, true);
        x.bar(1, 2, 3, true);
        DUE.is("10: 0 with 1, or 0 with 2", x.plan(0), 38);
        rooms("10: 0 with 1, or 0 with 2", x, 0, 0, 1);
        WallPlanner y = Setup.withHosts(3);
        y.prices(30, 1);
        y.must(0, 2, 0, true);
        y.must(1, 2, 0, true);
        y.bar(0, 1, 3, true);
        DUE.is("10: 0 with 2, or 1 with 2", y.plan(0), 38);
        rooms("10: 0 with 2, or 1 with 2", y, 0, 1, 0);
        WallPlanner z = Setup.withHosts(3);
        z.prices(7, 1);
        z.must(1, 2, 0, true);
        DUE.is("10: 1 with 2, or each alone", z.plan(0), 7);
        rooms("10: 1 with 2, or each alone", z, 0, 1, 1);
        WallPlanner w = Setup.withHosts(4);
        w.prices(7, 1);
        w.must(0, 1, 0, true);
        w.must(2, 3, 0, true);
        DUE.is("10: two pairs, one or none", w.plan(0), 14);
        rooms("10: two pairs, one or none", w, 0, 0, 1, 1);
    }

    /** "The PLAN is that of the least COST": by one less a later one is taken. */
    private static void dearerByOne() {
        WallPlanner x = Setup.withHosts(3);
        x.prices(30, 1);
        x.must(0, 1, 0, true);
        x.must(0, 2, 0, true);
        x.must(0, 2, 1, true);
        x.bar(1, 2, 3, true);
        DUE.is("10: 0 with 2 is cheaper", x.plan(0), 37);
        rooms("10: 0 with 2 is cheaper", x, 0, 1, 0);
        WallPlanner y = Setup.withHosts(2);
        y.must(0, 1, 0, true);
        int[][] prices = {{6, 1, 6, 1}, {7, 1, 7, 0}, {8, 1, 7, 0}, {99, 14, 98, 0}, {97, 14, 97, 1}, {98, 14, 98, 0}};
        for (int[] p : prices) {
            y.prices(p[0], p[1]);
            DUE.is("10: a rule for " + p[0] + " or 7 strays for " + p[1], y.plan(0), p[2]);
            rooms("10: a rule for " + p[0] + " or 7 strays for " + p[1], y, 0, p[3]);
        }
    }

    /** "ROOMS are numbered from 0 on in order of their least HOSTS". */
    private static void roomsByTheirLeastHosts() {
        int[][] due = {
            {0, 1, 1, 0, 2, 2, 1, 0}, {0, 1, 2, 3, 3, 2, 1, 0}, {0, 1, 2, 3, 4, 5, 6, 0}, {0, 1, 1, 1, 1, 1, 1, 1},
        };
        for (int[] rooms : due) {
            WallPlanner x = Setup.withHosts(8);
            for (int one = 0; one < 8; one++) {
                for (int other = 0; other < one; other++) {
                    if (rooms[one] == rooms[other]) {
                        Setup.mustAll(x, other, one);
                    }
                }
            }
            DUE.is("10: rooms without strays", x.plan(0), 0);
            rooms("11: rooms by their least hosts", x, rooms);
        }
    }

    /** "RULES are in order of the first ROOM, the second one, the DOOR": host 3 is in room 0, and 1 in room 1. */
    private static void rulesByRoomsNotHosts() {
        WallPlanner x = Setup.withHosts(4);
        Setup.mustAll(x, 0, 3);
        x.prices(9, 3);
        x.must(1, 2, 0, true);
        x.must(1, 3, 3, true);
        x.must(3, 2, 1, true);
        x.must(3, 1, 2, true);
        x.bar(1, 2, 3, true);
        DUE.is("10: four rules, three strays", x.plan(0), 45);
        rooms("11: 0 and 3 together", x, 0, 1, 2, 0);
        int[][] due = {{0, 1, 2}, {0, 2, 1}, {1, 0, 3}, {1, 2, 0}};
        DUE.is("21: rules", x.count(3), due.length);
        for (int k = 0; k < due.length; k++) {
            for (int what = 0; what < 3; what++) {
                DUE.is("12: rule(" + k + ", " + what + ")", x.rule(k, what), due[k][what]);
            }
        }
    }
}
