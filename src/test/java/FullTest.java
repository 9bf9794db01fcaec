/** The empty object and the full one: no HOSTS, TALKS, RULES; 8 HOSTS, 300 TALKS, 224 RULES, 512 calls. */
public final class FullTest {
    private static final Due DUE = new Due();

    public static void main(String[] args) {
        newObject();
        newObjectTakesAll();
        withoutTalks();
        oneHost();
        eightHostsAlone();
        eightHostsTogether();
        threeHundredTalks();
        fullTakesAllElse();
        allRules();
        allCalls();
        DUE.end();
    }

    /** "No HOSTS, no TALKS, no PLAN." */
    private static void newObject() {
        WallPlanner x = new WallPlanner();
        int[] counts = {0, 0, 0, 0, 0, -1};
        for (int what = 0; what < counts.length; what++) {
            DUE.is("1: count(" + what + ")", x.count(what), counts[what]);
        }
        for (int host = 0; host < 8; host++) {
            DUE.is("1: room(" + host + ")", x.room(host), -1);
            DUE.is("1: reach(" + host + ")", x.reach(host), -1);
        }
        DUE.is("1: plan(0)", x.plan(0), -1);
        DUE.is("1: odd(0)", x.odd(0), -1);
        DUE.is("1: shut(0)", x.shut(0), -1);
    }

    /** A new object has the law and the prices "at first", which can be changed before there is a host. */
    private static void newObjectTakesAll() {
        WallPlanner x = new WallPlanner();
        DUE.yes("6: before any host", x.law(1, 2, false));
        DUE.yes("7: before any host", x.prices(3, 99));
        DUE.is("2: the first host", x.host(0), 0);
        DUE.is("2: the second host", x.host(3), 1);
        DUE.is("3: the first talk", x.talk(0, 1, 0, 0, 1), 1);
        DUE.is("6: a least of 2", x.needed(0, 1, 0, 0), 0);
        DUE.is("3: the second talk", x.talk(0, 1, 0, 0, 1), 2);
        DUE.is("10: a rule for 3", x.plan(0), 3);
    }

    private static void withoutTalks() {
        WallPlanner x = Setup.withHosts(3);
        DUE.is("8: no talks", x.weight(0, 1, 0, 0), 0);
        DUE.is("9: no talks", x.needed(0, 1, 0, 0), 0);
        DUE.is("10: no talks", x.plan(0), 0);
        int[] counts = {3, 0, 3, 0, 0, 0};
        for (int what = 0; what < counts.length; what++) {
            DUE.is("21: no talks, count(" + what + ")", x.count(what), counts[what]);
        }
        DUE.is("12: no rules", x.rule(0, 0), -1);
        DUE.is("13: nothing is let", x.lets(0, 1, 0), 0);
        DUE.is("15: no rules", x.spread(0), 0);
        DUE.is("15: no rules, the first", x.spread(1), 0);
        DUE.is("16: no rules", x.shut(0), 0);
        DUE.is("17: no rules", x.shutting(0), -1);
        DUE.is("18: no talks", x.odd(0), 0);
        DUE.is("19: no talks", x.oddTalk(0, 0), -1);
    }

    private static void oneHost() {
        WallPlanner x = Setup.withMarks(3);
        DUE.is("10: one host", x.plan(0), 0);
        int[] counts = {1, 0, 1, 0, 0, 0};
        for (int what = 0; what < counts.length; what++) {
            DUE.is("21: one host, count(" + what + ")", x.count(what), counts[what]);
        }
        DUE.is("11: one host", x.room(0), 0);
        DUE.is("13: one host", x.lets(0, 0, 0), -1);
        DUE.is("14: one host", x.reach(0), 0);
        DUE.is("15: one host", x.spread(0), 0);
        DUE.is("15: one host", x.spread(1), 0);
        DUE.is("16: one host", x.shut(0), 0);
        DUE.is("18: one host", x.odd(0), 0);
        x.law(7, 1, true);
        DUE.is("10: one host, strict", x.plan(99), 0);
    }

    private static void eightHostsAlone() {
        WallPlanner x = Setup.withHosts(8);
        DUE.is("10: eight alone", x.plan(0), 0);
        for (int host = 0; host < 8; host++) {
            DUE.is("11: eight alone", x.room(host), host);
            DUE.is("14: eight alone", x.reach(host), 0);
        }
        DUE.is("21: eight rooms", x.count(2), 8);
    }

    private static void eightHostsTogether() {
        WallPlanner x = Setup.withMarks(0, 1, 2, 3, 0, 1, 2, 3);
        x.prices(0, 0);
        DUE.is("10: eight together", x.plan(0), 0);
        for (int host = 0; host < 8; host++) {
            DUE.is("11: eight together", x.room(host), 0);
            DUE.is("14: eight together", x.reach(host), 7);
        }
        DUE.is("15: eight together", x.spread(0), 7);
        DUE.is("15: eight together", x.spread(1), 0);
        DUE.is("21: one room", x.count(2), 1);
        DUE.is("21: all are strays", x.count(4), 224);
        DUE.is("16: for 7", x.shut(7), 0);
        DUE.is("16: for 6", x.shut(6), -1);
        x.prices(99, 99);
        DUE.is("21: for nothing, then", x.count(5), 0);
    }

    private static void threeHundredTalks() {
        WallPlanner x = Setup.withHosts(2);
        x.plan(0);
        for (int i = 0; i < 300; i++) {
            DUE.is("3: talk", x.talk(i % 2, 1 - i % 2, i % 4, 9, 1 + i), i + 1);
        }
        DUE.is("18: all are odd", x.odd(9), 300);
        int[] numbers = {0, 1, 150, 298, 299};
        for (int k : numbers) {
            int[] due = {k % 2, 1 - k % 2, k % 4, 1 + k, 0, -1};
            for (int what = 0; what < due.length; what++) {
                DUE.is("19: oddTalk(" + k + ", " + what + ")", x.oddTalk(k, what), due[what]);
            }
        }
        DUE.is("19: no more", x.oddTalk(300, 0), -1);
        DUE.is("3: no more", x.talk(0, 1, 0, 9, 1), -1);
        DUE.is("18: no more", x.odd(9), 300);
    }

    /** What is full refuses more of its kind, and nothing else. */
    private static void fullTakesAllElse() {
        WallPlanner x = Setup.full();
        DUE.is("21: 8 hosts", x.count(0), 8);
        DUE.is("21: 300 talks", x.count(1), 300);
        DUE.yes("4: when full", x.must(7, 6, 0, true));
        DUE.yes("5: when full", x.bar(6, 7, 0, true));
        DUE.yes("6: when full", x.law(100, 1, true));
        DUE.yes("7: when full", x.prices(1, 2));
        DUE.is("11: in none", x.room(7), -1);
        DUE.is("20: when full", x.place(7, 99), 7);
        DUE.is("11: in one", x.room(7), 7);
        DUE.is("13: when full", x.lets(7, 6, 0), 2);
        DUE.is("2: when full", x.host(0), -1);
        DUE.is("3: when full", x.talk(0, 1, 0, 9, 1), -1);
        DUE.yes("10: when full", x.plan(9) >= 0);
        DUE.is("18: when full", x.odd(9), 0);
    }

    /** All ways are needed and each host is in a room of its own: 56 pairs of rooms by 4 doors. */
    private static void allRules() {
        WallPlanner x = Setup.withMarks(0, 0, 0, 0, 1, 2, 2);
        x.plan(0);
        x.host(3);
        for (int way = 0; way < 256; way++) {
            if (way / 32 != way / 4 % 8) {
                x.talk(way / 32, way / 4 % 8, way % 4, 9, 1 + way);
            }
        }
        x.law(1, 1, true);
        DUE.is("20: the eighth room", x.place(7, 9), 7);
        DUE.is("21: all rules", x.count(3), 224);
        DUE.is("21: no strays", x.count(4), 0);
        DUE.is("21: all rules", x.count(5), 224 * 5);
        int k = 0;
        for (int way = 0; way < 256; way++) {
            if (way / 32 != way / 4 % 8) {
                DUE.is("12: rule(" + k + ", 4)", x.rule(k, 4), 1 + way);
                k++;
            }
        }
        DUE.is("12: the last rule", x.rule(223, 0), 7);
        DUE.is("12: no more", x.rule(224, 0), -1);
        DUE.is("16: too many", x.shut(0), -2);
    }

    /** "An object is used for at most 512 calls after it has been made": the last is answered as the first. */
    private static void allCalls() {
        WallPlanner x = Setup.withHosts(7);
        DUE.is("call 8", x.plan(0), 0);
        DUE.is("call 9", x.host(0), 7);
        for (int i = 1; i <= 300; i++) {
            DUE.is("call " + (9 + i), x.talk(i % 7, 7, i % 4, 99 - i % 7, 999), i);
        }
        for (int i = 1; i <= 190; i++) {
            DUE.no("call " + (309 + i), x.must(7, i % 7, i % 4, false));
        }
        DUE.is("call 500", x.talk(0, 7, 0, 99, 1), -1);
        DUE.is("call 501", x.host(0), -1);
        DUE.yes("call 502", x.prices(0, 99));
        DUE.is("call 503", x.place(7, 99), 7);
        DUE.is("call 504", x.count(3), 28);
        DUE.is("call 505", x.odd(99), 0);
        DUE.is("call 506", x.shut(1), -2);
        DUE.yes("call 507", x.law(1, 1, true));
        DUE.is("call 508", x.plan(99), 0);
        DUE.is("call 509", x.count(3), 4);
        DUE.is("call 510", x.shut(0), 42 * 999);
        DUE.is("call 511", x.shutting(3), 3);
        DUE.is("call 512", x.reach(0), 1);
    }
}
