/** Promise 20 (and 21 behind it): where a new host belongs. */
public final class PlaceTest {
    private static final Due DUE = new Due();

    public static void main(String[] args) {
        wrong();
        theCheapestRoom();
        theFirstOfEquals();
        aNewRoomIsTheLast();
        notWhereBarred();
        nowhere();
        nowhereForOthers();
        strict();
        strictInRoomsMixedBefore();
        dayOfThePlace();
        pricesOfThePlace();
        othersInNoRoom();
        numbersStay();
        otherRoomsStay();
        eachBarredWayInARoom();
        barredByARuleOfTheRoom();
        barredByARuleToTheRoom();
        barsOfHostsInNoRoom();
        strictByMarks();
        strictLetsANewRoom();
        newRoomBeyondBarred();
        firstOfSeveralRooms();
        cheaperByOne();
        byTheDay();
        byTheLawOfNow();
        afterPlaces();
        DUE.end();
    }

    private static void rooms(String what, WallPlanner x, int... due) {
        for (int host = 0; host < due.length; host++) {
            DUE.is(what + ": room(" + host + ")", x.room(host), due[host]);
        }
    }

    private static void counts(String what, WallPlanner x, int... due) {
        for (int i = 0; i < due.length; i++) {
            DUE.is(what + ": count(" + (2 + i) + ")", x.count(2 + i), due[i]);
        }
    }

    private static void wrong() {
        WallPlanner x = Setup.withMarks(0);
        DUE.is("20: no plan", x.place(0, 0), -1);
        x.plan(0);
        DUE.is("20: it is in one", x.place(0, 0), -1);
        DUE.is("20: no such host", x.place(1, 0), -1);
        DUE.is("20: no such host", x.place(-1, 0), -1);
        DUE.is("20: no such host", x.place(8, 0), -1);
        x.host(0);
        DUE.is("20: no such day", x.place(1, -1), -1);
        DUE.is("20: no such day", x.place(1, 100), -1);
        DUE.is("20: it is in none still", x.room(1), -1);
        DUE.is("20: it is placed", x.place(1, 99), 1);
        DUE.is("20: it is in one", x.place(1, 99), -1);
    }

    /** Hosts 0, 1 in room 0 and hosts 2, 3 in room 1; host 4 is new. */
    private static WallPlanner twoRooms() {
        WallPlanner x = Setup.withMarks(0, 0, 1, 1);
        Setup.mustAll(x, 0, 1);
        Setup.mustAll(x, 2, 3);
        x.plan(0);
        rooms("20: two rooms", x, 0, 0, 1, 1);
        x.host(1);
        return x;
    }

    private static void theCheapestRoom() {
        WallPlanner x = twoRooms();
        Setup.mustAll(x, 4, 2);
        DUE.is("20: with its like", x.place(4, 0), 1);
        rooms("20: with its like", x, 0, 0, 1, 1, 1);
        counts("21: with its like", x, 2, 0, 8, 8);
    }

    private static void theFirstOfEquals() {
        WallPlanner x = twoRooms();
        x.prices(9, 0);
        x.must(4, 0, 0, true);
        x.must(4, 2, 0, true);
        DUE.is("20: a rule either way", x.place(4, 0), 0);
        counts("21: a rule either way", x, 2, 1, 15 + 5, 9);
        WallPlanner y = twoRooms();
        y.prices(0, 0);
        y.must(4, 2, 0, true);
        DUE.is("20: all for nothing", y.place(4, 0), 0);
    }

    private static void aNewRoomIsTheLast() {
        WallPlanner x = twoRooms();
        x.must(4, 2, 0, true);
        DUE.is("20: a new room", x.place(4, 0), 2);
        counts("21: a rule and a stray", x, 3, 1, 1, 6);
        DUE.is("12: from", x.rule(0, 0), 2);
        DUE.is("12: to", x.rule(0, 1), 1);
        DUE.is("13: let", x.lets(4, 3, 0), 2);
        DUE.is("14: reach", x.reach(4), 2);
    }

    private static void notWhereBarred() {
        WallPlanner x = twoRooms();
        x.prices(9, 1);
        Setup.mustAll(x, 4, 2);
        x.must(3, 4, 0, true);
        x.bar(4, 3, 1, true);
        // Alone it would need a rule by door 1 to host 2, which lets it to host 3.
        DUE.is("20: with the others", x.place(4, 0), -1);
        x.must(4, 2, 1, false);
        DUE.is("20: alone", x.place(4, 0), 2);
        DUE.is("13: not let", x.lets(4, 3, 1), 0);
    }

    private static void nowhere() {
        WallPlanner x = twoRooms();
        x.must(4, 0, 0, true);
        x.bar(4, 1, 0, true);
        x.talk(2, 0, 0, 5, 1);
        DUE.is("20: nowhere", x.place(4, 5), -1);
        DUE.is("20: nothing happens", x.room(4), -1);
        counts("20: nothing happens", x, 2, 0, 0, 0);
        x.must(4, 0, 0, false);
        DUE.is("20: somewhere", x.place(4, 5), 2);
    }

    private static void nowhereForOthers() {
        WallPlanner x = twoRooms();
        x.must(0, 1, 2, false);
        x.bar(0, 1, 2, true);
        DUE.is("20: a barred way would be let elsewhere", x.place(4, 0), -1);
        x.bar(0, 1, 2, false);
        x.must(0, 2, 2, true);
        x.bar(1, 2, 2, true);
        DUE.is("20: a barred way would be let by a rule", x.place(4, 0), -1);
        x.bar(1, 2, 2, false);
        x.bar(1, 2, 1, true);
        DUE.is("20: what is barred is not let", x.place(4, 0), 2);
    }

    private static void strict() {
        WallPlanner x = twoRooms();
        Setup.mustAll(x, 4, 0);
        Setup.mustAll(x, 4, 1);
        x.law(7, 1, true);
        DUE.is("20: not with unlike ones", x.place(4, 0), 2);
        counts("21: alone", x, 3, 8, 0, 40);
        WallPlanner y = twoRooms();
        Setup.mustAll(y, 4, 0);
        Setup.mustAll(y, 4, 1);
        DUE.is("20: with unlike ones", y.place(4, 0), 0);
        counts("21: with unlike ones", y, 2, 0, 0, 0);
    }

    private static void strictInRoomsMixedBefore() {
        WallPlanner x = Setup.withMarks(0, 1, 2);
        Setup.mustAll(x, 0, 1);
        x.plan(0);
        rooms("20: mixed before", x, 0, 0, 1);
        x.law(7, 1, true);
        x.prices(0, 0);
        x.host(0);
        DUE.is("20: not into a mixed room", x.place(3, 0), 2);
        x.host(2);
        DUE.is("20: with its like", x.place(4, 0), 1);
    }

    private static void dayOfThePlace() {
        WallPlanner x = Setup.withMarks(0, 0);
        x.talk(0, 1, 0, 0, 3);
        x.talk(1, 0, 2, 50, 8);
        x.plan(0);
        DUE.is("12: the rule of the plan", x.rule(0, 4), 3);
        x.host(0);
        x.talk(2, 1, 1, 50, 4);
        DUE.is("20: alone", x.place(2, 50), 2);
        DUE.is("21: rules of this day", x.count(3), 2);
        DUE.is("12: from", x.rule(0, 0), 1);
        DUE.is("12: to", x.rule(0, 1), 0);
        DUE.is("12: by", x.rule(0, 2), 2);
        DUE.is("12: weight", x.rule(0, 4), 8);
        DUE.is("12: weight", x.rule(1, 4), 4);
        DUE.is("13: let no more", x.lets(0, 1, 0), 0);
        DUE.is("16: by weights of this day", x.shut(0), 12);
    }

    private static void pricesOfThePlace() {
        WallPlanner x = Setup.withMarks(0, 0);
        x.must(0, 1, 0, true);
        x.plan(0);
        x.prices(20, 30);
        DUE.is("21: prices of the plan", x.count(5), 5);
        x.host(0);
        DUE.is("20: alone", x.place(2, 0), 2);
        DUE.is("21: prices of the place", x.count(5), 20);
        x.prices(1, 1);
        DUE.is("21: prices of then", x.count(5), 20);
    }

    private static void othersInNoRoom() {
        WallPlanner x = Setup.withMarks(0);
        x.plan(0);
        x.host(0);
        x.host(0);
        x.must(1, 2, 0, true);
        x.must(0, 1, 0, true);
        x.bar(1, 0, 0, true);
        DUE.is("20: the last first", x.place(2, 0), 1);
        rooms("20: the last first", x, 0, -1, 1);
        counts("21: nothing is needed yet", x, 2, 0, 0, 0);
        DUE.is("20: then the other", x.place(1, 0), 2);
        counts("21: two rules", x, 3, 2, 0, 10);
        DUE.is("12: from", x.rule(1, 0), 2);
        DUE.is("12: to", x.rule(1, 1), 1);
    }

    private static void numbersStay() {
        WallPlanner x = Setup.withMarks(0);
        x.plan(0);
        for (int host = 1; host < 8; host++) {
            x.host(0);
        }
        for (int host = 7; host > 0; host--) {
            DUE.is("20: host " + host, x.place(host, 0), 8 - host);
        }
        rooms("20: numbers stay", x, 0, 7, 6, 5, 4, 3, 2, 1);
        counts("21: all alone", x, 8, 0, 0, 0);
        x.plan(0);
        rooms("10: rooms by their least hosts again", x, 0, 1, 2, 3, 4, 5, 6, 7);
    }

    /** "all others stay", though they would be elsewhere in a new plan. */
    private static void otherRoomsStay() {
        WallPlanner x = Setup.withMarks(0, 0, 0);
        x.plan(0);
        Setup.mustAll(x, 0, 1);
        x.host(0);
        Setup.mustAll(x, 3, 2);
        DUE.is("20: with host 2", x.place(3, 0), 2);
        rooms("20: the others stay", x, 0, 1, 2, 2);
        counts("21: the others stay", x, 3, 8, 0, 40);
        DUE.is("10: a new plan", x.plan(0), 0);
        rooms("10: a new plan", x, 0, 0, 1, 1);
    }

    /** "not where a BARRED WAY would be LET": each way between the new one and one of the room. */
    private static void eachBarredWayInARoom() {
        for (int way = 0; way < 16; way++) {
            WallPlanner x = twoRooms();
            x.prices(99, 0);
            int other = way / 8;
            int door = way % 4;
            boolean out = way / 4 % 2 == 0;
            x.bar(out ? 4 : other, out ? other : 4, door, true);
            DUE.is("20: not with host " + other, x.place(4, 0), 1);
        }
    }

    /** In the room the new one would be let by the rules that the others there have. */
    private static void barredByARuleOfTheRoom() {
        WallPlanner x = twoRooms();
        x.prices(99, 0);
        x.must(0, 2, 1, true);
        DUE.is("20: in the first", x.place(4, 0), 0);
        WallPlanner y = twoRooms();
        y.prices(99, 0);
        y.must(0, 2, 1, true);
        y.bar(4, 3, 1, true);
        DUE.is("20: neither in the first, nor with host 3", y.place(4, 0), 2);
        WallPlanner z = twoRooms();
        z.prices(99, 0);
        z.must(0, 2, 1, true);
        z.bar(1, 4, 1, true);
        DUE.is("20: neither with host 1, nor where the rule leads", z.place(4, 0), 2);
    }

    private static void barredByARuleToTheRoom() {
        WallPlanner x = twoRooms();
        x.prices(99, 0);
        x.must(4, 2, 1, true);
        x.bar(0, 3, 1, true);
        DUE.is("20: its own rule would let host 0 to host 3", x.place(4, 0), 1);
        WallPlanner y = twoRooms();
        y.prices(99, 0);
        y.must(4, 2, 1, true);
        y.bar(4, 3, 0, true);
        y.bar(0, 4, 0, true);
        DUE.is("20: alone, its rule is by another door", y.place(4, 0), 2);
        DUE.is("13: its rule", y.lets(4, 3, 1), 2);
    }

    /** Of hosts in no room nothing is let, so their bars and needs are nothing to the place. */
    private static void barsOfHostsInNoRoom() {
        WallPlanner x = twoRooms();
        x.host(0);
        x.prices(99, 0);
        x.must(5, 0, 0, true);
        x.bar(5, 1, 0, true);
        x.must(4, 5, 0, true);
        DUE.is("20: host 5 is in no room", x.place(4, 0), 0);
        counts("21: host 5 is in no room", x, 2, 0, 16, 0);
        DUE.is("20: host 5 can be nowhere", x.place(5, 0), -1);
        rooms("20: host 5 can be nowhere", x, 0, 0, 1, 1, 0, -1);
    }

    /** "or where STRICT forbids it". */
    private static void strictByMarks() {
        for (int marks = 0; marks < 16; marks++) {
            WallPlanner x = Setup.withMarks(marks / 4);
            x.prices(0, 0);
            x.law(7, 1, true);
            x.plan(0);
            x.host(marks % 4);
            DUE.is("20: marks " + marks / 4 + ", " + marks % 4, x.place(1, 0), marks / 4 == marks % 4 ? 0 : 1);
            WallPlanner y = Setup.withMarks(marks / 4);
            y.prices(0, 0);
            y.plan(0);
            y.host(marks % 4);
            DUE.is("20: not strict", y.place(1, 0), 0);
        }
    }

    /** "(a new one is let always, but for BARRED)": though rooms of others are mixed. */
    private static void strictLetsANewRoom() {
        WallPlanner x = Setup.withMarks(0, 1);
        x.prices(0, 0);
        x.plan(0);
        rooms("20: mixed", x, 0, 0);
        x.law(7, 1, true);
        for (int mark = 0; mark < 4; mark++) {
            x.host(mark);
            DUE.is("20: mark " + mark + ", a new room", x.place(2 + mark, 0), 1 + mark);
        }
        x.host(3);
        DUE.is("20: with its like", x.place(6, 0), 4);
    }

    private static void newRoomBeyondBarred() {
        WallPlanner x = twoRooms();
        x.law(7, 1, true);
        x.bar(4, 2, 0, true);
        DUE.is("20: strict, and barred from its like", x.place(4, 0), 2);
        WallPlanner y = twoRooms();
        y.law(7, 1, true);
        y.must(4, 2, 0, true);
        y.bar(4, 3, 0, true);
        DUE.is("20: a new one too would let what is barred", y.place(4, 0), -1);
    }

    /** "with which the COST .. is least, of several the first"; "(or a new one, the last)". */
    private static void firstOfSeveralRooms() {
        WallPlanner x = Setup.withHosts(3);
        x.plan(0);
        x.host(0);
        x.prices(7, 1);
        x.must(3, 1, 0, true);
        DUE.is("20: with host 1, or a new one", x.place(3, 0), 1);
        WallPlanner y = Setup.withHosts(3);
        y.plan(0);
        y.host(0);
        y.prices(8, 1);
        y.must(3, 1, 0, true);
        y.must(3, 2, 0, true);
        DUE.is("20: with host 1, or 2", y.place(3, 0), 1);
        rooms("20: with host 1, or 2", y, 0, 1, 2, 1);
        WallPlanner z = Setup.withHosts(3);
        z.prices(0, 99);
        z.plan(0);
        z.host(0);
        z.prices(0, 0);
        DUE.is("20: anywhere", z.place(3, 0), 0);
    }

    private static void cheaperByOne() {
        int[][] due = {{6, 3}, {7, 1}, {8, 1}};
        for (int[] d : due) {
            WallPlanner x = Setup.withHosts(3);
            x.plan(0);
            x.host(0);
            x.prices(d[0], 1);
            x.must(3, 1, 0, true);
            DUE.is("20: a rule for " + d[0], x.place(3, 0), d[1]);
            DUE.is("21: a rule for " + d[0], x.count(5), Math.min(d[0], 7));
        }
        WallPlanner y = Setup.withHosts(3);
        y.plan(0);
        y.host(0);
        y.prices(30, 1);
        y.must(3, 1, 0, true);
        y.must(3, 2, 0, true);
        y.must(3, 2, 1, true);
        y.must(3, 1, 1, true);
        y.must(2, 3, 3, true);
        DUE.is("20: two rules with host 2, three with host 1", y.place(3, 0), 2);
    }

    /** "by what is NEEDED on this DAY": the edges of the window. */
    private static void byTheDay() {
        int[][] due = {{9, 2}, {10, 1}, {16, 1}, {17, 2}};
        for (int[] d : due) {
            WallPlanner x = Setup.withHosts(2);
            x.plan(0);
            x.host(0);
            for (int way = 0; way < 8; way++) {
                x.talk(way % 2 == 0 ? 1 : 2, way % 2 == 0 ? 2 : 1, way / 2, 10, 1);
            }
            DUE.is("20: on day " + d[0], x.place(2, d[0]), d[1]);
            counts("21: on day " + d[0], x, d[1] + 1, 0, 0, 0);
        }
    }

    private static void byTheLawOfNow() {
        WallPlanner x = Setup.withHosts(2);
        x.talk(0, 1, 0, 0, 5);
        x.plan(0);
        DUE.is("12: a rule", x.count(3), 1);
        x.host(0);
        x.law(7, 6, false);
        x.prices(99, 99);
        DUE.is("20: by a least of 6", x.place(2, 0), 2);
        counts("21: by a least of 6", x, 3, 0, 0, 0);
        x.host(0);
        x.law(1, 5, false);
        DUE.is("20: by a window of 1", x.place(3, 0), 3);
        counts("21: by a window of 1", x, 4, 1, 0, 99);
        x.host(0);
        DUE.is("20: the next day", x.place(4, 1), 4);
        counts("21: the next day", x, 5, 0, 0, 0);
    }

    private static void afterPlaces() {
        WallPlanner x = Setup.chain();
        x.host(0);
        x.talk(2, 3, 0, 9, 1);
        DUE.is("20: placed", x.place(3, 9), 3);
        DUE.is("14: on to it", x.reach(0), 3);
        DUE.is("15: on to it", x.spread(0), 3);
        DUE.is("16: shut its rule", x.shut(2), 1);
        DUE.is("17: shut its rule", x.shutting(0), 2);
        DUE.is("18: let", x.odd(9), 0);
        DUE.is("13: let", x.lets(2, 3, 0), 2);
        DUE.is("12: by it", x.rule(2, 4), 1);
    }
}
