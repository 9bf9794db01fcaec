/** Promise 20 (and 21 behind it): where a new host belongs. */
public final class PlaceTest {
    private static final Due DUE = new Due();

    public static void main(String[] args) {
        wrong();
        theCheapestRoom();
        theFirstOfEquals();
        aNewRoomIsTheLast();
        notWhereBarred();
        nowhere();
        nowhereForOthers();
        strict();
        strictInRoomsMixedBefore();
        dayOfThePlace();
        pricesOfThePlace();
        othersInNoRoom();
        numbersStay();
        DUE.end();
    }

    private static void rooms(String what, WallPlanner x, int... due) {
        for (int host = 0; host < due.length; host++) {
            DUE.is(what + ": room(" + host + ")", x.room(host), due[host]);
        }
    }

    private static void counts(String what, WallPlanner x, int... due) {
        for (int i = 0; i < due.length; i++) {
            DUE.is(what + ": count(" + (2 + i) + ")", x.count(2 + i), due[i]);
        }
    }

    private static void wrong() {
        WallPlanner x = Setup.withMarks(0);
        DUE.is("20: no plan", x.place(0, 0), -1);
        x.plan(0);
        DUE.is("20: it is in one", x.place(0, 0), -1);
        DUE.is("20: no such host", x.place(1, 0), -1);
        DUE.is("20: no such host", x.place(-1, 0), -1);
        DUE.is("20: no such host", x.place(8, 0), -1);
        x.host(0);
        DUE.is("20: no such day", x.place(1, -1), -1);
        DUE.is("20: no such day", x.place(1, 100), -1);
        DUE.is("20: it is in none still", x.room(1), -1);
        DUE.is("20: it is placed", x.place(1, 99), 1);
        DUE.is("20: it is in one", x.place(1, 99), -1);
    }

    /** Hosts 0, 1 in room 0 and hosts 2, 3 in room 1; host 4 is new. */
    private static WallPlanner twoRooms() {
        WallPlanner x = Setup.withMarks(0, 0, 1, 1);
        Setup.mustAll(x, 0, 1);
        Setup.mustAll(x, 2, 3);
        x.plan(0);
        rooms("20: two rooms", x, 0, 0, 1, 1);
        x.host(1);
        return x;
    }

    private static void theCheapestRoom() {
        WallPlanner x = twoRooms();
        Setup.mustAll(x, 4, 2);
        DUE.is("20: with its like", x.place(4, 0), 1);
        rooms("20: with its like", x, 0, 0, 1, 1, 1);
        counts("21: with its like", x, 2, 0, 8, 8);
    }

    private static void theFirstOfEquals() {
        WallPlanner x = twoRooms();
        x.prices(9, 0);
        x.must(4, 0, 0, true);
        x.must(4, 2, 0, true);
        DUE.is("20: a rule either way", x.place(4, 0), 0);
        counts("21: a rule either way", x, 2, 1, 15 + 5, 9);
        WallPlanner y = twoRooms();
        y.prices(0, 0);
        y.must(4, 2, 0, true);
        DUE.is("20: all for nothing", y.place(4, 0), 0);
    }

    private static void aNewRoomIsTheLast() {
        WallPlanner x = twoRooms();
        x.must(4, 2, 0, true);
        DUE.is("20: a new room", x.place(4, 0), 2);
        counts("21: a rule and a stray", x, 3, 1, 1, 6);
        DUE.is("12: from", x.rule(0, 0), 2);
        DUE.is("12: to", x.rule(0, 1), 1);
        DUE.is("13: let", x.lets(4, 3, 0), 2);
        DUE.is("14: reach", x.reach(4), 2);
    }

    private static void notWhereBarred() {
        WallPlanner x = twoRooms();
        x.prices(9, 1);
        Setup.mustAll(x, 4, 2);
        x.must(3, 4, 0, true);
        x.bar(4, 3, 1, true);
        // Alone it would need a rule by door 1 to host 2, which lets it to host 3.
        DUE.is("20: with the others", x.place(4, 0), -1);
        x.must(4, 2, 1, false);
        DUE.is("20: alone", x.place(4, 0), 2);
        DUE.is("13: not let", x.lets(4, 3, 1), 0);
    }

    private static void nowhere() {
        WallPlanner x = twoRooms();
        x.must(4, 0, 0, true);
        x.bar(4, 1, 0, true);
        x.talk(2, 0, 0, 5, 1);
        DUE.is("20: nowhere", x.place(4, 5), -1);
        DUE.is("20: nothing happens", x.room(4), -1);
        counts("20: nothing happens", x, 2, 0, 0, 0);
        x.must(4, 0, 0, false);
        DUE.is("20: somewhere", x.place(4, 5), 2);
    }

    private static void nowhereForOthers() {
        WallPlanner x = twoRooms();
        x.must(0, 1, 2, false);
        x.bar(0, 1, 2, true);
        DUE.is("20: a barred way would be let elsewhere", x.place(4, 0), -1);
        x.bar(0, 1, 2, false);
        x.must(0, 2, 2, true);
        x.bar(1, 2, 2, true);
        DUE.is("20: a barred way would be let by a rule", x.place(4, 0), -1);
        x.bar(1, 2, 2, false);
        x.bar(1, 2, 1, true);
        DUE.is("20: what is barred is not let", x.place(4, 0), 2);
    }

    private static void strict() {
        WallPlanner x = twoRooms();
        Setup.mustAll(x, 4, 0);
        Setup.mustAll(x, 4, 1);
        x.law(7, 1, true);
        DUE.is("20: not with unlike ones", x.place(4, 0), 2);
        counts("21: alone", x, 3, 8, 0, 40);
        WallPlanner y = twoRooms();
        Setup.mustAll(y, 4, 0);
        Setup.mustAll(y, 4, 1);
        DUE.is("20: with unlike ones", y.place(4, 0), 0);
        counts("21: with unlike ones", y, 2, 0, 0, 0);
    }

    private static void strictInRoomsMixedBefore() {
        WallPlanner x = Setup.withMarks(0, 1, 2);
        Setup.mustAll(x, 0, 1);
        x.plan(0);
        rooms("20: mixed before", x, 0, 0, 1);
        x.law(7, 1, true);
        x.prices(0, 0);
        x.host(0);
        DUE.is("20: not into a mixed room", x.place(3, 0), 2);
        x.host(2);
        DUE.is("20: with its like", x.place(4, 0), 1);
    }

    private static void dayOfThePlace() {
        WallPlanner x = Setup.withMarks(0, 0);
        x.talk(0, 1, 0, 0, 3);
        x.talk(1, 0, 2, 50, 8);
        x.plan(0);
        DUE.is("12: the rule of the plan", x.rule(0, 4), 3);
        x.host(0);
        x.talk(2, 1, 1, 50, 4);
        DUE.is("20: alone", x.place(2, 50), 2);
        DUE.is("21: rules of this day", x.count(3), 2);
        DUE.is("12: from", x.rule(0, 0), 1);
        DUE.is("12: to", x.rule(0, 1), 0);
        DUE.is("12: by", x.rule(0, 2), 2);
        DUE.is("12: weight", x.rule(0, 4), 8);
        DUE.is("12: weight", x.rule(1, 4), 4);
        DUE.is("13: let no more", x.lets(0, 1, 0), 0);
        DUE.is("16: by weights of this day", x.shut(0), 12);
    }

    private static void pricesOfThePlace() {
        WallPlanner x = Setup.withMarks(0, 0);
        x.must(0, 1, 0, true);
        x.plan(0);
        x.prices(20, 30);
        DUE.is("21: prices of the plan", x.count(5), 5);
        x.host(0);
        DUE.is("20: alone", x.place(2, 0), 2);
        DUE.is("21: prices of the place", x.count(5), 20);
        x.prices(1, 1);
        DUE.is("21: prices of then", x.count(5), 20);
    }

    private static void othersInNoRoom() {
        WallPlanner x = Setup.withMarks(0);
        x.plan(0);
        x.host(0);
        x.host(0);
        x.must(1, 2, 0, true);
        x.must(0, 1, 0, true);
        x.bar(1, 0, 0, true);
        DUE.is("20: the last first", x.place(2, 0), 1);
        rooms("20: the last first", x, 0, -1, 1);
        counts("21: nothing is needed yet", x, 2, 0, 0, 0);
        DUE.is("20: then the other", x.place(1, 0), 2);
        counts("21: two rules", x, 3, 2, 0, 10);
        DUE.is("12: from", x.rule(1, 0), 2);
        DUE.is("12: to", x.rule(1, 1), 1);
    }

    private static void numbersStay() {
        WallPlanner x = Setup.withMarks(0);
        x.plan(0);
        for (int host = 1; host < 8; host++) {
            x.host(0);
        }
        for (int host = 7; host > 0; host--) {
            DUE.is("20: host " + host, x.place(host, 0), 8 - host);
        }
        rooms("20: numbers stay", x, 0, 7, 6, 5, 4, 3, 2, 1);
        counts("21: all alone", x, 8, 0, 0, 0);
        x.plan(0);
        rooms("10: rooms by their least hosts again", x, 0, 1, 2, 3, 4, 5, 6, 7);
    }
}
