/** Promises 18 and 19: talk that no rule lets. */
public final class OddTest {
    private static final Due DUE = new Due();

    public static void main(String[] args) {
        wrongDays();
        nearness();
        withinARoom();
        hostsInNoRoom();
        asItWasThen();
        many();
        DUE.end();
    }

    private static void oddTalk(String what, WallPlanner x, int k, int... due) {
        for (int i = 0; i < due.length; i++) {
            DUE.is(what + ": oddTalk(" + k + ", " + i + ")", x.oddTalk(k, i), due[i]);
        }
    }

    private static void wrongDays() {
        WallPlanner x = Setup.withHostsApart(2);
        x.talk(0, 1, 0, 3, 1);
        DUE.is("18: no plan", x.odd(3), -1);
        DUE.is("19: no plan", x.oddTalk(0, 0), -1);
        x.plan(0);
        DUE.is("18: no such day", x.odd(-1), -1);
        DUE.is("18: no such day", x.odd(100), -1);
        DUE.is("18: the day", x.odd(3), 1);
        DUE.is("18: the day before", x.odd(2), 0);
        DUE.is("19: none", x.oddTalk(0, 0), -1);
        DUE.is("18: the day", x.odd(3), 1);
        DUE.is("18: no such day", x.odd(100), -1);
        oddTalk("19: that of the latest that was not NONE", x, 0, 0, 1, 0, 1, 0);
        DUE.is("19: no such one", x.oddTalk(1, 0), -1);
        DUE.is("19: no such one", x.oddTalk(-1, 0), -1);
        DUE.is("19: no such what", x.oddTalk(0, 5), -1);
        DUE.is("19: no such what", x.oddTalk(0, -1), -1);
    }

    private static void nearness() {
        WallPlanner x = Setup.withHostsApart(4);
        x.talk(0, 1, 0, 0, 1);
        x.talk(1, 0, 2, 0, 1);
        x.talk(2, 3, 1, 0, 1);
        x.plan(0);
        x.talk(1, 0, 0, 1, 11);
        x.talk(2, 3, 1, 1, 12);
        x.talk(0, 1, 2, 1, 13);
        x.talk(0, 1, 3, 1, 14);
        x.talk(3, 2, 1, 1, 15);
        x.talk(3, 2, 2, 1, 16);
        x.talk(0, 3, 1, 1, 17);
        x.talk(0, 1, 1, 2, 18);
        DUE.is("18: the day of the plan", x.odd(0), 0);
        DUE.is("18: the next day", x.odd(1), 6);
        oddTalk("19: another door, this one the other way", x, 0, 1, 0, 0, 11, 3);
        oddTalk("19: another door, this one the other way", x, 1, 0, 1, 2, 13, 3);
        oddTalk("19: another door", x, 2, 0, 1, 3, 14, 1);
        oddTalk("19: this door the other way", x, 3, 3, 2, 1, 15, 2);
        oddTalk("19: neither", x, 4, 3, 2, 2, 16, 0);
        oddTalk("19: no rule between them", x, 5, 0, 3, 1, 17, 0);
        DUE.is("19: no more", x.oddTalk(6, 0), -1);
    }

    private static void withinARoom() {
        WallPlanner x = Setup.withHostsApart(2);
        x.prices(99, 0);
        x.must(0, 1, 0, true);
        x.plan(0);
        x.talk(1, 0, 3, 0, 1);
        DUE.is("18: all is let within a room", x.odd(0), 0);
    }

    private static void hostsInNoRoom() {
        WallPlanner x = Setup.withHostsApart(2);
        x.must(0, 1, 0, true);
        x.plan(0);
        x.host(0);
        x.host(0);
        x.talk(0, 2, 0, 0, 1);
        x.talk(0, 1, 0, 0, 2);
        x.talk(3, 1, 0, 0, 3);
        x.talk(2, 3, 0, 0, 4);
        DUE.is("18: with hosts in no room", x.odd(0), 3);
        oddTalk("19: to one in no room", x, 0, 0, 2, 0, 1, 0);
        oddTalk("19: from one in no room", x, 1, 3, 1, 0, 3, 0);
        oddTalk("19: both in no room", x, 2, 2, 3, 0, 4, 0);
    }

    private static void asItWasThen() {
        WallPlanner x = Setup.withHostsApart(2);
        x.must(0, 1, 0, true);
        x.plan(0);
        x.talk(0, 1, 1, 0, 5);
        DUE.is("18: odd", x.odd(0), 1);
        x.plan(0);
        x.talk(0, 1, 2, 0, 6);
        oddTalk("19: as it was then", x, 0, 0, 1, 1, 5, 1);
        DUE.is("19: as it was then", x.oddTalk(1, 0), -1);
        DUE.is("18: by the new plan", x.odd(0), 1);
        oddTalk("19: by the new plan", x, 0, 0, 1, 2, 6, 1);
    }

    private static void many() {
        WallPlanner x = Setup.withHostsApart(2);
        x.plan(0);
        for (int i = 0; i < 300; i++) {
            x.talk(i % 2, 1 - i % 2, 0, 9, 1 + i);
        }
        DUE.is("18: all of them", x.odd(9), 300);
        oddTalk("19: the last", x, 299, 1, 0, 0, 300, 0);
        DUE.is("19: no more", x.oddTalk(300, 0), -1);
    }
}
