/** Promises 18 and 19: talk that no rule lets. */
public final class OddTest {
    private static final Due DUE = new Due();

    public static void main(String[] args) {
        wrongDays();
        nearness();
        withinARoom();
        hostsInNoRoom();
        asItWasThen();
        many();
        theDayAlone();
        inTheOrderTold();
        strayTalkIsLet();
        barredTalk();
        nearByRooms();
        nearByEachDoor();
        DUE.end();
    }

    private static void oddTalk(String what, WallPlanner x, int k, int... due) {
        for (int i = 0; i < due.length; i++) {
            DUE.is(what + ": oddTalk(" + k + ", " + i + ")", x.oddTalk(k, i), due[i]);
        }
    }

    private static void wrongDays() {
        WallPlanner x = Setup.withHostsApart(2);
        x.talk(0, 1, 0, 3, 1);
        DUE.is("18: no plan", x.odd(3), -1);
        DUE.is("19: no plan", x.oddTalk(0, 0), -1);
        x.plan(0);
        DUE.is("18: no such day", x.odd(-1), -1);
        DUE.is("18: no such day", x.odd(100), -1);
        DUE.is("18: the day", x.odd(3), 1);
        DUE.is("18: the day before", x.odd(2), 0);
        DUE.is("19: none", x.oddTalk(0, 0), -1);
        DUE.is("18: the day", x.odd(3), 1);
        DUE.is("18: no such day", x.odd(100), -1);
        oddTalk("19: that of the latest that was not NONE", x, 0, 0, 1, 0, 1, 0);
        DUE.is("19: no such one", x.oddTalk(1, 0), -1);
        DUE.is("19: no such one", x.oddTalk(-1, 0), -1);
        DUE.is("19: no such what", x.oddTalk(0, 5), -1);
        DUE.is("19: no such what", x.oddTalk(0, -1), -1);
    }

    private static void nearness() {
        WallPlanner x = Setup.withHostsApart(4);
        x.talk(0, 1, 0, 0, 1);
        x.talk(1, 0, 2, 0, 1);
        x.talk(2, 3, 1, 0, 1);
        x.plan(0);
        x.talk(1, 0, 0, 1, 11);
        x.talk(2, 3, 1, 1, 12);
        x.talk(0, 1, 2, 1, 13);
        x.talk(0, 1, 3, 1, 14);
        x.talk(3, 2, 1, 1, 15);
        x.talk(3, 2, 2, 1, 16);
        x.talk(0, 3, 1, 1, 17);
        x.talk(0, 1, 1, 2, 18);
        DUE.is("18: the day of the plan", x.odd(0), 0);
        DUE.is("18: the next day", x.odd(1), 6);
        oddTalk("19: another door, this one the other way", x, 0, 1, 0, 0, 11, 3);
        oddTalk("19: another door, this one the other way", x, 1, 0, 1, 2, 13, 3);
        oddTalk("19: another door", x, 2, 0, 1, 3, 14, 1);
        oddTalk("19: this door the other way", x, 3, 3, 2, 1, 15, 2);
        oddTalk("19: neither", x, 4, 3, 2, 2, 16, 0);
        oddTalk("19: no rule between them", x, 5, 0, 3, 1, 17, 0);
        DUE.is("19: no more", x.oddTalk(6, 0), -1);
    }

    private static void withinARoom() {
        WallPlanner x = Setup.withHostsApart(2);
        x.prices(99, 0);
        x.must(0, 1, 0, true);
        x.plan(0);
        x.talk(1, 0, 3, 0, 1);
        DUE.is("18: all is let within a room", x.odd(0), 0);
    }

    private static void hostsInNoRoom() {
        WallPlanner x = Setup.withHostsApart(2);
        x.must(0, 1, 0, true);
        x.plan(0);
        x.host(0);
        x.host(0);
        x.talk(0, 2, 0, 0, 1);
        x.talk(0, 1, 0, 0, 2);
        x.talk(3, 1, 0, 0, 3);
        x.talk(2, 3, 0, 0, 4);
        DUE.is("18: with hosts in no room", x.odd(0), 3);
        oddTalk("19: to one in no room", x, 0, 0, 2, 0, 1, 0);
        oddTalk("19: from one in no room", x, 1, 3, 1, 0, 3, 0);
        oddTalk("19: both in no room", x, 2, 2, 3, 0, 4, 0);
    }

    private static void asItWasThen() {
        WallPlanner x = Setup.withHostsApart(2);
        x.must(0, 1, 0, true);
        x.plan(0);
        x.talk(0, 1, 1, 0, 5);
        DUE.is("18: odd", x.odd(0), 1);
        x.plan(0);
        x.talk(0, 1, 2, 0, 6);
        oddTalk("19: as it was then", x, 0, 0, 1, 1, 5, 1);
        DUE.is("19: as it was then", x.oddTalk(1, 0), -1);
        DUE.is("18: by the new plan", x.odd(0), 1);
        oddTalk("19: by the new plan", x, 0, 0, 1, 2, 6, 1);
    }

    private static void many() {
        WallPlanner x = Setup.withHostsApart(2);
        x.plan(0);
        for (int i = 0; i < 300; i++) {
            x.talk(i % 2, 1 - i % 2, 0, 9, 1 + i);
        }
        DUE.is("18: all of them", x.odd(9), 300);
        oddTalk("19: the last", x, 299, 1, 0, 0, 300, 0);
        DUE.is("19: no more", x.oddTalk(300, 0), -1);
    }

    /** "ODD are TALKS of a DAY": the window is nothing to them. */
    private static void theDayAlone() {
        int[] days = {0, 1, 50, 98, 99};
        for (int day : days) {
            WallPlanner x = Setup.withHostsApart(2);
            x.law(100, 1, false);
            x.plan(0);
            x.talk(0, 1, 0, day, 7);
            for (int d = 0; d < 100; d++) {
                DUE.is("18: told on day " + day + ", asked on day " + d, x.odd(d), d == day ? 1 : 0);
            }
        }
    }

    /** "in the order in which they were told". */
    private static void inTheOrderTold() {
        WallPlanner x = Setup.withHostsApart(3);
        x.plan(0);
        x.talk(2, 1, 3, 9, 5);
        x.talk(0, 1, 0, 8, 1);
        x.talk(0, 1, 0, 9, 9);
        x.talk(2, 1, 3, 9, 5);
        x.talk(0, 2, 2, 10, 1);
        x.talk(1, 0, 0, 9, 2);
        DUE.is("18: the same talk counts each time", x.odd(9), 4);
        oddTalk("19: the first", x, 0, 2, 1, 3, 5, 0);
        oddTalk("19: the second", x, 1, 0, 1, 0, 9, 0);
        oddTalk("19: the first once more", x, 2, 2, 1, 3, 5, 0);
        oddTalk("19: the last", x, 3, 1, 0, 0, 2, 0);
        oddTalk("19: no more", x, 4, -1, -1, -1, -1, -1);
    }

    /** What a rule lets besides is let: "whose WAY is not LET by the PLAN". */
    private static void strayTalkIsLet() {
        WallPlanner x = twoRooms();
        x.talk(1, 3, 0, 9, 1);
        x.talk(1, 3, 1, 9, 1);
        DUE.is("18: of a stray, and of another door", x.odd(9), 1);
        oddTalk("19: of another door", x, 0, 1, 3, 1, 1, 1);
    }

    private static void barredTalk() {
        WallPlanner x = Setup.withHostsApart(2);
        x.bar(0, 1, 0, true);
        x.talk(0, 1, 0, 9, 999);
        x.plan(9);
        DUE.is("18: a barred way", x.odd(9), 1);
        oddTalk("19: a barred way", x, 0, 0, 1, 0, 999, 0);
    }

    /** Hosts 0, 1 in room 0 and hosts 2, 3 in room 1; a rule from room 0 to room 1 by door 0. */
    private static WallPlanner twoRooms() {
        WallPlanner x = Setup.withMarks(0, 0, 1, 1);
        Setup.mustAll(x, 0, 1);
        Setup.mustAll(x, 2, 3);
        x.law(7, 1, true);
        x.must(0, 2, 0, true);
        x.plan(0);
        return x;
    }

    /** "if between these ROOMS that way there is a RULE": those of the rooms, whichever hosts need them. */
    private static void nearByRooms() {
        WallPlanner x = twoRooms();
        x.talk(1, 3, 2, 9, 1);
        x.talk(3, 1, 0, 9, 1);
        x.talk(3, 1, 1, 9, 1);
        DUE.is("18: between the rooms", x.odd(9), 3);
        DUE.is("19: another door", x.oddTalk(0, 4), 1);
        DUE.is("19: the other way", x.oddTalk(1, 4), 2);
        DUE.is("19: another door the other way", x.oddTalk(2, 4), 0);
    }

    /** "1 if .. a RULE by another DOOR, and 2 if there is one by this DOOR the other way, together". */
    private static void nearByEachDoor() {
        for (int door = 0; door < 4; door++) {
            for (int there = 0; there < 16; there++) {
                for (int back = 0; back < 16; back++) {
                    nearByDoors(door, there, back);
                }
            }
        }
    }

    private static void nearByDoors(int door, int there, int back) {
        WallPlanner x = Setup.withHostsApart(2);
        for (int other = 0; other < 4; other++) {
            x.must(0, 1, other, (there >> other & 1) == 1);
            x.must(1, 0, other, (back >> other & 1) == 1);
        }
        x.plan(0);
        x.talk(0, 1, door, 9, 1);
        boolean let = (there >> door & 1) == 1;
        int near = (there != 0 ? 1 : 0) + ((back >> door & 1) == 1 ? 2 : 0);
        String what = "doors " + there + ", back " + back + ", door " + door;
        DUE.is("18: " + what, x.odd(9), let ? 0 : 1);
        DUE.is("19: " + what, x.oddTalk(0, 4), let ? -1 : near);
    }
}
