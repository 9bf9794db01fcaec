/**
 * Every bound that the document names, in every call that takes a number of that kind: the last value that is allowed
 * and the first one that is not, on either side; after one that is not, all is as it was.
 */
public final class BoundsTest {
    private static final Due DUE = new Due();
    private static final Twins ALL = Twins.ofAll(DUE);
    private static final Twins.Making LIVED_IN = Setup::livedIn;
    private static final Twins.Making BARRED = BoundsTest::livedInAndBarred;
    private static final Twins.Making FULL = Setup::full;
    private static final Twins.Making CHAIN = Setup::chain;
    private static final Twins.Making EIGHT = () -> Setup.withHosts(8);

    private interface OfNumber {
        int ask(WallPlanner x, int number);
    }

    public static void main(String[] args) {
        livedInIsAsTold();
        hostsAtMostEight();
        marks();
        doors();
        hostsOfAWay();
        hostsOfAWayOfEight();
        hosts();
        talksAtMostThreeHundred();
        days();
        countsOfATalk();
        windows();
        leasts();
        prices();
        spreadsToShutFor();
        numbersOfRules();
        numbersOfShutting();
        numbersOfOddTalks();
        whats();
        DUE.end();
    }

    /** From least to most the call is answered, with these answers at both ends; beyond them with the refusal. */
    private static void bound(String what, Twins.Making making, OfNumber call, int refusal, int[] least, int[] most) {
        DUE.is(what + " of " + least[0], call.ask(making.make(), least[0]), least[1]);
        DUE.is(what + " of " + most[0], call.ask(making.make(), most[0]), most[1]);
        int[] beyond = {least[0] - 1, most[0] + 1, Integer.MIN_VALUE, Integer.MAX_VALUE};
        for (int number : beyond) {
            ALL.stay(what + " of " + number, making, x -> call.ask(x, number), refusal);
        }
    }

    private static int[] at(int number, int answer) {
        return new int[] {number, answer};
    }

    private static int asInt(boolean yes) {
        return yes ? 1 : 0;
    }

    private static WallPlanner livedInAndBarred() {
        WallPlanner x = Setup.livedIn();
        for (int door = 0; door < 4; door++) {
            x.bar(1, 5, door, true);
        }
        return x;
    }

    /** What the tests here and others stand on. */
    private static void livedInIsAsTold() {
        WallPlanner x = Setup.livedIn();
        int[] counts = {6, 13, 3, 4, 7, 43};
        for (int what = 0; what < counts.length; what++) {
            DUE.is("lived in: count(" + what + ")", x.count(what), counts[what]);
        }
        int[][] rules = {{0, 1, 1, 2, 10, 1}, {1, 0, 0, 1, 5, 1}, {1, 2, 2, 1, 7, 0}, {2, 0, 3, 1, 3, 1}};
        for (int k = 0; k < rules.length; k++) {
            for (int what = 0; what < 6; what++) {
                DUE.is("lived in: rule(" + k + ", " + what + ")", x.rule(k, what), rules[k][what]);
            }
        }
        int[] shut = {0, 1, 3, -1};
        for (int k = 0; k < shut.length; k++) {
            DUE.is("lived in: shutting(" + k + ")", x.shutting(k), shut[k]);
        }
        int[][] odd = {{0, 3, 0, 8, 3}, {2, 4, 1, 1, 1}, {5, 0, 0, 2, 0}, {-1, -1, -1, -1, -1}};
        for (int k = 0; k < odd.length; k++) {
            for (int what = 0; what < 5; what++) {
                DUE.is("lived in: oddTalk(" + k + ", " + what + ")", x.oddTalk(k, what), odd[k][what]);
            }
        }
    }

    /** "HOSTS, at most 8, numbered from 0 on"; host: "NONE: .. or there are 8". */
    private static void hostsAtMostEight() {
        for (int hosts = 0; hosts < 8; hosts++) {
            DUE.is("2: host after " + hosts, Setup.withHosts(hosts).host(1), hosts);
        }
        for (int mark = 0; mark < 4; mark++) {
            int m = mark;
            ALL.stay("2: a ninth host of mark " + mark, EIGHT, x -> x.host(m), -1);
            ALL.stay("2: a ninth host of mark " + mark, FULL, x -> x.host(m), -1);
        }
    }

    /** "each of a MARK 0 .. 3". */
    private static void marks() {
        bound("2: mark", LIVED_IN, (x, mark) -> x.host(mark), -1, at(0, 6), at(3, 6));
    }

    /** "DOORS 0 .. 3". */
    private static void doors() {
        bound("3: door", LIVED_IN, (x, door) -> x.talk(4, 0, door, 9, 1), -1, at(0, 14), at(3, 14));
        bound("4: door, on", LIVED_IN, (x, door) -> asInt(x.must(4, 0, door, true)), 0, at(0, 1), at(3, 1));
        bound("4: door, off", LIVED_IN, (x, door) -> asInt(x.must(0, 1, door, false)), 0, at(0, 1), at(3, 1));
        bound("5: door, on", LIVED_IN, (x, door) -> asInt(x.bar(4, 0, door, true)), 0, at(0, 1), at(3, 1));
        bound("5: door, off", BARRED, (x, door) -> asInt(x.bar(1, 5, door, false)), 0, at(0, 1), at(3, 1));
        bound("8: door", LIVED_IN, (x, door) -> x.weight(4, 0, door, 9), -1, at(0, 0), at(3, 3));
        bound("9: door", LIVED_IN, (x, door) -> x.needed(4, 0, door, 9), -1, at(0, 0), at(3, 1));
        bound("13: door, by a rule", LIVED_IN, (x, door) -> x.lets(4, 0, door), -1, at(0, 0), at(3, 2));
        bound("13: door, in a room", LIVED_IN, (x, door) -> x.lets(1, 0, door), -1, at(0, 1), at(3, 1));
    }

    /** "A WAY: from a HOST to another one by a DOOR", where there are six. */
    private static void hostsOfAWay() {
        bound("3: from", LIVED_IN, (x, from) -> x.talk(from, 2, 1, 9, 1), -1, at(0, 14), at(5, 14));
        bound("3: to", LIVED_IN, (x, to) -> x.talk(4, to, 1, 9, 1), -1, at(0, 14), at(5, 14));
        bound("4: from", LIVED_IN, (x, from) -> asInt(x.must(from, 2, 0, true)), 0, at(0, 1), at(5, 1));
        bound("4: to", LIVED_IN, (x, to) -> asInt(x.must(4, to, 1, true)), 0, at(0, 1), at(5, 1));
        bound("5: from", LIVED_IN, (x, from) -> asInt(x.bar(from, 2, 0, true)), 0, at(0, 1), at(5, 1));
        bound("5: to", LIVED_IN, (x, to) -> asInt(x.bar(4, to, 1, true)), 0, at(0, 1), at(5, 1));
        bound("8: from", LIVED_IN, (x, from) -> x.weight(from, 3, 0, 9), -1, at(0, 8), at(5, 0));
        bound("8: to", LIVED_IN, (x, to) -> x.weight(4, to, 0, 9), -1, at(0, 0), at(5, 9));
        bound("9: from", LIVED_IN, (x, from) -> x.needed(from, 3, 0, 9), -1, at(0, 1), at(5, 0));
        bound("9: to", LIVED_IN, (x, to) -> x.needed(4, to, 0, 9), -1, at(0, 0), at(5, 1));
        // Host 5 is in no room: the first that is not allowed here.
        bound("13: from", LIVED_IN, (x, from) -> x.lets(from, 2, 1), -1, at(0, 2), at(4, 0));
        bound("13: to", LIVED_IN, (x, to) -> x.lets(3, to, 2), -1, at(0, 0), at(4, 2));
        for (int host = 0; host < 6; host++) {
            itself(host);
        }
    }

    private static void itself(int host) {
        ALL.stay("3: to itself", LIVED_IN, x -> x.talk(host, host, 1, 9, 1), -1);
        ALL.stay("4: to itself", LIVED_IN, x -> asInt(x.must(host, host, 1, true)), 0);
        ALL.stay("5: to itself", LIVED_IN, x -> asInt(x.bar(host, host, 1, true)), 0);
        ALL.stay("8: to itself", LIVED_IN, x -> x.weight(host, host, 1, 9), -1);
        ALL.stay("9: to itself", LIVED_IN, x -> x.needed(host, host, 1, 9), -1);
        ALL.stay("13: to itself", LIVED_IN, x -> x.lets(host, host, 1), -1);
    }

    private static void hostsOfAWayOfEight() {
        bound("3: from, of 8", EIGHT, (x, from) -> x.talk(from, 2, 1, 9, 1), -1, at(0, 1), at(7, 1));
        bound("3: to, of 8", EIGHT, (x, to) -> x.talk(2, to, 1, 9, 1), -1, at(0, 1), at(7, 1));
        bound("4: from, of 8", EIGHT, (x, from) -> asInt(x.must(from, 2, 0, true)), 0, at(0, 1), at(7, 1));
        bound("4: to, of 8", EIGHT, (x, to) -> asInt(x.must(2, to, 0, true)), 0, at(0, 1), at(7, 1));
        bound("5: from, of 8", EIGHT, (x, from) -> asInt(x.bar(from, 2, 0, true)), 0, at(0, 1), at(7, 1));
        bound("5: to, of 8", EIGHT, (x, to) -> asInt(x.bar(2, to, 0, true)), 0, at(0, 1), at(7, 1));
        bound("8: from, of 8", EIGHT, (x, from) -> x.weight(from, 2, 0, 9), -1, at(0, 0), at(7, 0));
        bound("8: to, of 8", EIGHT, (x, to) -> x.weight(2, to, 0, 9), -1, at(0, 0), at(7, 0));
        bound("9: from, of 8", EIGHT, (x, from) -> x.needed(from, 2, 0, 9), -1, at(0, 0), at(7, 0));
        bound("9: to, of 8", EIGHT, (x, to) -> x.needed(2, to, 0, 9), -1, at(0, 0), at(7, 0));
        Twins.Making rules = () -> Setup.withRules(12);
        bound("13: from, of 8", rules, (x, from) -> x.lets(from, 3, 0), -1, at(0, 0), at(7, 0));
        bound("13: to, of 8", rules, (x, to) -> x.lets(1, to, 0), -1, at(0, 0), at(7, 2));
        bound("11: host, of 8", rules, WallPlanner::room, -1, at(0, 0), at(7, 7));
        bound("14: host, of 8", rules, WallPlanner::reach, -1, at(0, 1), at(7, 0));
    }

    private static void hosts() {
        // Host 5 is in no room, and there is no host 6.
        bound("11: host", LIVED_IN, WallPlanner::room, -1, at(0, 0), at(4, 2));
        bound("14: host", LIVED_IN, WallPlanner::reach, -1, at(0, 4), at(4, 4));
        bound("20: host", LIVED_IN, (x, host) -> x.place(host, 9), -1, at(5, 3), at(5, 3));
        bound("20: host, of 8", FULL, (x, host) -> x.place(host, 9), -1, at(7, 7), at(7, 7));
    }

    /** "TALKS, at most 300"; talk: "NONE: .. or 300 there are". */
    private static void talksAtMostThreeHundred() {
        WallPlanner x = Setup.withHosts(2);
        for (int talks = 1; talks <= 299; talks++) {
            x.talk(0, 1, 0, 0, 1);
        }
        DUE.is("3: the 300th", x.talk(1, 0, 3, 99, 999), 300);
        DUE.is("8: the 300th counts", x.weight(1, 0, 3, 99), 999);
        DUE.is("3: a 301st", x.talk(1, 0, 3, 99, 999), -1);
        DUE.is("8: the 301st does not", x.weight(1, 0, 3, 99), 999);
        DUE.is("21: 300", x.count(1), 300);
        ALL.stay("3: a 301st", FULL, y -> y.talk(0, 1, 0, 9, 1), -1);
        ALL.stay("3: a 301st of the last way", FULL, y -> y.talk(7, 6, 3, 99, 999), -1);
    }

    /** "a DAY 0 .. 99". */
    private static void days() {
        bound("3: day", LIVED_IN, (x, day) -> x.talk(0, 1, 0, day, 1), -1, at(0, 14), at(99, 14));
        bound("8: day", LIVED_IN, (x, day) -> x.weight(1, 4, 0, day), -1, at(0, 6), at(99, 7));
        bound("9: day", LIVED_IN, (x, day) -> x.needed(1, 4, 0, day), -1, at(0, 1), at(99, 1));
        bound("10: day", LIVED_IN, WallPlanner::plan, -1, at(0, 12), at(99, 12));
        bound("18: day", LIVED_IN, WallPlanner::odd, -1, at(0, 1), at(99, 1));
        bound("20: day", LIVED_IN, (x, day) -> x.place(5, day), -1, at(0, 3), at(99, 3));
    }

    /** "a COUNT 1 .. 999". */
    private static void countsOfATalk() {
        bound("3: count", LIVED_IN, (x, count) -> x.talk(0, 1, 0, 9, count), -1, at(1, 14), at(999, 14));
        ALL.stay("3: count of -999", LIVED_IN, x -> x.talk(0, 1, 0, 9, -999), -1);
        WallPlanner x = Setup.withHosts(2);
        x.talk(0, 1, 0, 9, 1);
        DUE.is("8: the least count", x.weight(0, 1, 0, 9), 1);
        x.talk(0, 1, 0, 9, 999);
        DUE.is("8: the greatest count", x.weight(0, 1, 0, 9), 1000);
    }

    /** "WINDOW 1 .. 100"; law: "false, and it stays: it can't be". */
    private static void windows() {
        bound("6: window", LIVED_IN, (x, window) -> asInt(x.law(window, 2, false)), 0, at(1, 1), at(100, 1));
        bound("6: window, strict", LIVED_IN, (x, window) -> asInt(x.law(window, 7, true)), 0, at(1, 1), at(100, 1));
    }

    /** "LEAST 1 .. 9999". */
    private static void leasts() {
        bound("6: least", LIVED_IN, (x, least) -> asInt(x.law(4, least, false)), 0, at(1, 1), at(9999, 1));
        bound("6: least, strict", LIVED_IN, (x, least) -> asInt(x.law(9, least, true)), 0, at(1, 1), at(9999, 1));
        ALL.stay("6: neither", LIVED_IN, x -> asInt(x.law(0, 10000, false)), 0);
    }

    /** "prices of a RULE and of a STRAY, 0 .. 99 each"; prices: "false, and they stay: they can't be". */
    private static void prices() {
        bound("7: of a rule", LIVED_IN, (x, price) -> asInt(x.prices(price, 50)), 0, at(0, 1), at(99, 1));
        bound("7: of a stray", LIVED_IN, (x, price) -> asInt(x.prices(50, price)), 0, at(0, 1), at(99, 1));
        ALL.stay("7: neither", LIVED_IN, x -> asInt(x.prices(100, -1)), 0);
        WallPlanner x = Setup.withHosts(2);
        x.must(0, 1, 0, true);
        int[][] due = {{0, 0, 0}, {0, 99, 0}, {99, 0, 0}, {99, 99, 99}, {99, 1, 7}, {1, 99, 1}};
        for (int[] d : due) {
            DUE.yes("7: prices(" + d[0] + ", " + d[1] + ")", x.prices(d[0], d[1]));
            DUE.is("10: by prices " + d[0] + ", " + d[1], x.plan(0), d[2]);
        }
    }

    /** shut: "NONE: no such number (0 .. 8)". */
    private static void spreadsToShutFor() {
        bound("16: number", CHAIN, WallPlanner::shut, -1, at(0, 8), at(8, 0));
        bound("16: number, with 12 that can be shut", FULL, WallPlanner::shut, -1, at(0, 29841), at(8, 0));
    }

    private static void numbersOfRules() {
        bound("12: rule", LIVED_IN, (x, k) -> x.rule(k, 4), -1, at(0, 10), at(3, 3));
        for (int what = 0; what < 6; what++) {
            int w = what;
            ALL.stay("12: what " + what + " of rule 4", LIVED_IN, x -> x.rule(4, w), -1);
            ALL.stay("12: what " + what + " of rule -1", LIVED_IN, x -> x.rule(-1, w), -1);
        }
    }

    private static void numbersOfShutting() {
        bound("17: shutting", LIVED_IN, WallPlanner::shutting, -1, at(0, 0), at(2, 3));
        bound("17: shutting, of 12", FULL, WallPlanner::shutting, -1, at(0, 0), at(11, 11));
    }

    private static void numbersOfOddTalks() {
        bound("19: odd talk", LIVED_IN, (x, k) -> x.oddTalk(k, 3), -1, at(0, 8), at(2, 2));
        bound("19: odd talk, of 10", FULL, (x, k) -> x.oddTalk(k, 3), -1, at(0, 1), at(9, 10));
        for (int what = 0; what < 5; what++) {
            int w = what;
            ALL.stay("19: what " + what + " of talk 3", LIVED_IN, x -> x.oddTalk(3, w), -1);
            ALL.stay("19: what " + what + " of talk -1", LIVED_IN, x -> x.oddTalk(-1, w), -1);
        }
    }

    private static void whats() {
        bound("12: what", LIVED_IN, (x, what) -> x.rule(2, what), -1, at(0, 1), at(5, 0));
        bound("15: what", LIVED_IN, WallPlanner::spread, -1, at(0, 4), at(1, 0));
        bound("19: what", LIVED_IN, (x, what) -> x.oddTalk(1, what), -1, at(0, 2), at(4, 1));
        bound("21: what", LIVED_IN, WallPlanner::count, -1, at(0, 6), at(5, 43));
    }
}
