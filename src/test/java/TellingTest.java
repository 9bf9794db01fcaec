/** Promises 1 to 9: a new object, and what is told of hosts, talks, ways, the law and prices. */
public final class TellingTest {
    private static final Due DUE = new Due();

    public static void main(String[] args) {
        newObject();
        objectsAreApart();
        hosts();
        talks();
        talksAreFew();
        musts();
        bars();
        laws();
        prices();
        weights();
        needs();
        DUE.end();
    }

    private static void newObject() {
        WallPlanner x = new WallPlanner();
        for (int what = 0; what < 5; what++) {
            DUE.is("1: count(" + what + ")", x.count(what), 0);
        }
        DUE.is("1: count(5)", x.count(5), -1);
        DUE.is("1: plan(0)", x.plan(0), -1);
        DUE.is("1: room(0)", x.room(0), -1);
        DUE.is("1: rule(0, 0)", x.rule(0, 0), -1);
        DUE.is("1: lets(0, 1, 0)", x.lets(0, 1, 0), -1);
        DUE.is("1: weight(0, 1, 0, 0)", x.weight(0, 1, 0, 0), -1);
        DUE.is("1: needed(0, 1, 0, 0)", x.needed(0, 1, 0, 0), -1);
        DUE.is("1: reach(0)", x.reach(0), -1);
        DUE.is("1: spread(0)", x.spread(0), -1);
        DUE.is("1: spread(1)", x.spread(1), -1);
        DUE.is("1: shut(8)", x.shut(8), -1);
        DUE.is("1: shutting(0)", x.shutting(0), -1);
        DUE.is("1: odd(0)", x.odd(0), -1);
        DUE.is("1: oddTalk(0, 0)", x.oddTalk(0, 0), -1);
        DUE.is("1: place(0, 0)", x.place(0, 0), -1);
        DUE.no("1: must(0, 1, 0, true)", x.must(0, 1, 0, true));
        DUE.no("1: bar(0, 1, 0, true)", x.bar(0, 1, 0, true));
    }

    private static void objectsAreApart() {
        WallPlanner x = Setup.withHosts(2);
        x.talk(0, 1, 0, 0, 1);
        x.plan(0);
        WallPlanner y = new WallPlanner();
        DUE.is("1: count(0) of another", y.count(0), 0);
        DUE.is("1: count(1) of another", y.count(1), 0);
        DUE.is("1: count(5) of another", y.count(5), -1);
    }

    private static void hosts() {
        WallPlanner x = new WallPlanner();
        int[] wrong = {-1, 4, Integer.MIN_VALUE, Integer.MAX_VALUE};
        for (int mark : wrong) {
            DUE.is("2: host(" + mark + ")", x.host(mark), -1);
        }
        DUE.is("2: count(0) after wrong marks", x.count(0), 0);
        for (int i = 0; i < 8; i++) {
            DUE.is("2: host " + i, x.host(i % 4), i);
            DUE.is("2: room of host " + i, x.room(i), -1);
        }
        DUE.is("2: a ninth host", x.host(0), -1);
        DUE.is("2: count(0)", x.count(0), 8);
    }

    private static void talks() {
        WallPlanner x = Setup.withHosts(2);
        int[][] wrong = {
            {0, 0, 0, 0, 1}, {0, 2, 0, 0, 1}, {2, 0, 0, 0, 1}, {-1, 0, 0, 0, 1}, {0, -1, 0, 0, 1},
            {0, 1, -1, 0, 1}, {0, 1, 4, 0, 1}, {0, 1, 0, -1, 1}, {0, 1, 0, 100, 1}, {0, 1, 0, 0, 0},
            {0, 1, 0, 0, 1000}, {0, 1, 0, 0, -1}, {0, 1, 0, 0, Integer.MIN_VALUE}, {0, 1, 0, 0, Integer.MAX_VALUE},
        };
        for (int[] w : wrong) {
            DUE.is("3: talk" + java.util.Arrays.toString(w), x.talk(w[0], w[1], w[2], w[3], w[4]), -1);
        }
        DUE.is("3: count(1) after wrong ones", x.count(1), 0);
        DUE.is("3: talk of the least", x.talk(0, 1, 0, 0, 1), 1);
        DUE.is("3: talk of the most", x.talk(1, 0, 3, 99, 999), 2);
        DUE.is("3: the same once more", x.talk(1, 0, 3, 99, 999), 3);
        DUE.is("3: count(1)", x.count(1), 3);
        DUE.is("3: its weight", x.weight(1, 0, 3, 99), 1998);
    }

    private static void talksAreFew() {
        WallPlanner x = Setup.withHosts(2);
        for (int i = 1; i <= 300; i++) {
            DUE.is("3: talk " + i, x.talk(0, 1, 0, 5, 999), i);
        }
        DUE.is("3: a talk too many", x.talk(0, 1, 0, 5, 999), -1);
        DUE.is("3: count(1)", x.count(1), 300);
        DUE.is("8: the greatest weight", x.weight(0, 1, 0, 5), 299700);
    }

    private static void musts() {
        WallPlanner x = Setup.withHosts(3);
        DUE.no("4: to itself", x.must(1, 1, 0, true));
        DUE.no("4: no such host", x.must(0, 3, 0, true));
        DUE.no("4: no such host", x.must(-1, 0, 0, true));
        DUE.no("4: no such door", x.must(0, 1, 4, true));
        DUE.no("4: no such door", x.must(0, 1, -1, true));
        DUE.no("4: it is none already", x.must(0, 1, 2, false));
        DUE.yes("4: it becomes one", x.must(0, 1, 2, true));
        DUE.no("4: it is one already", x.must(0, 1, 2, true));
        DUE.is("4: the way is needed", x.needed(0, 1, 2, 0), 1);
        DUE.is("4: not the other door", x.needed(0, 1, 1, 0), 0);
        DUE.is("4: not the way back", x.needed(1, 0, 2, 0), 0);
        DUE.yes("4: it is none any more", x.must(0, 1, 2, false));
        DUE.is("4: the way is not needed", x.needed(0, 1, 2, 0), 0);
        x.bar(0, 1, 2, true);
        DUE.no("4: a barred way", x.must(0, 1, 2, true));
        DUE.no("4: a barred way, off", x.must(0, 1, 2, false));
        DUE.is("4: a barred way is not needed", x.needed(0, 1, 2, 0), 0);
        DUE.yes("4: another door of these hosts", x.must(0, 1, 3, true));
    }

    private static void bars() {
        WallPlanner x = Setup.withHosts(3);
        x.talk(0, 1, 2, 0, 50);
        DUE.no("5: to itself", x.bar(1, 1, 0, true));
        DUE.no("5: no such host", x.bar(0, 3, 0, true));
        DUE.no("5: no such host", x.bar(8, 0, 0, true));
        DUE.no("5: no such door", x.bar(0, 1, 4, true));
        DUE.no("5: no such door", x.bar(0, 1, -1, true));
        DUE.no("5: it is not barred already", x.bar(0, 1, 2, false));
        DUE.yes("5: it becomes barred", x.bar(0, 1, 2, true));
        DUE.no("5: it is barred already", x.bar(0, 1, 2, true));
        DUE.is("5: it is not needed", x.needed(0, 1, 2, 0), 0);
        DUE.is("5: its weight stays", x.weight(0, 1, 2, 0), 50);
        DUE.yes("5: it is barred no more", x.bar(0, 1, 2, false));
        DUE.is("5: it is needed again", x.needed(0, 1, 2, 0), 1);
        x.must(0, 1, 2, true);
        DUE.no("5: a must", x.bar(0, 1, 2, true));
        DUE.no("5: a must, off", x.bar(0, 1, 2, false));
        DUE.yes("5: the way back", x.bar(1, 0, 2, true));
    }

    private static void laws() {
        WallPlanner x = Setup.withHosts(2);
        x.talk(0, 1, 0, 10, 4);
        DUE.is("6: the window is 7 at first", x.weight(0, 1, 0, 16), 4);
        DUE.is("6: the window is 7 at first", x.weight(0, 1, 0, 17), 0);
        DUE.yes("6: law(2, 5, false)", x.law(2, 5, false));
        int[][] wrong = {{0, 1}, {101, 1}, {-1, 1}, {1, 0}, {1, 10000}, {1, -1}, {Integer.MIN_VALUE, 1}};
        for (int[] w : wrong) {
            DUE.no("6: law" + java.util.Arrays.toString(w), x.law(w[0], w[1], true));
            DUE.is("6: the window stays", x.weight(0, 1, 0, 11), 4);
            DUE.is("6: the window stays", x.weight(0, 1, 0, 12), 0);
            DUE.is("6: the least stays", x.needed(0, 1, 0, 11), 0);
        }
        DUE.yes("6: law(100, 9999, false)", x.law(100, 9999, false));
        DUE.is("6: a window of 100", x.weight(0, 1, 0, 99), 4);
        DUE.yes("6: law(1, 1, true)", x.law(1, 1, true));
        DUE.is("6: a window of 1", x.weight(0, 1, 0, 10), 4);
        DUE.is("6: a window of 1", x.weight(0, 1, 0, 11), 0);
        strictStays();
    }

    private static void strictStays() {
        WallPlanner x = new WallPlanner();
        x.host(0);
        x.host(1);
        x.prices(9, 0);
        x.must(0, 1, 0, true);
        DUE.is("6: not strict at first", x.plan(0), 0);
        DUE.no("6: law(0, 1, true)", x.law(0, 1, true));
        DUE.is("6: still not strict", x.plan(0), 0);
        DUE.yes("6: law(7, 1, true)", x.law(7, 1, true));
        DUE.is("6: strict", x.plan(0), 9);
        DUE.no("6: law(7, 0, false)", x.law(7, 0, false));
        DUE.is("6: still strict", x.plan(0), 9);
    }

    private static void prices() {
        WallPlanner x = Setup.withHosts(2);
        x.must(0, 1, 0, true);
        DUE.is("7: 5 and 1 at first", x.plan(0), 5);
        x.must(0, 1, 1, true);
        DUE.is("7: 5 and 1 at first", x.plan(0), 6);
        DUE.yes("7: prices(2, 99)", x.prices(2, 99));
        DUE.is("7: rules for 2", x.plan(0), 4);
        int[][] wrong = {{-1, 0}, {100, 0}, {0, -1}, {0, 100}, {Integer.MIN_VALUE, 0}, {0, Integer.MAX_VALUE}};
        for (int[] w : wrong) {
            DUE.no("7: prices" + java.util.Arrays.toString(w), x.prices(w[0], w[1]));
            DUE.is("7: they stay", x.plan(0), 4);
        }
        DUE.yes("7: prices(99, 99)", x.prices(99, 99));
        DUE.is("7: rules for 99", x.plan(0), 198);
        DUE.yes("7: prices(99, 3)", x.prices(99, 3));
        DUE.is("7: strays for 3", x.plan(0), 18);
        DUE.yes("7: prices(0, 0)", x.prices(0, 0));
        DUE.is("7: all for nothing", x.plan(0), 0);
    }

    private static void weights() {
        WallPlanner x = Setup.withHosts(3);
        x.law(3, 1, false);
        x.talk(0, 1, 2, 0, 1);
        x.talk(0, 1, 2, 1, 10);
        x.talk(0, 1, 2, 3, 100);
        x.talk(0, 1, 2, 4, 900);
        x.talk(0, 1, 1, 1, 7);
        x.talk(1, 0, 2, 1, 7);
        x.talk(0, 2, 2, 1, 7);
        int[] due = {1, 11, 11, 110, 1000, 1000, 900, 0};
        for (int day = 0; day < due.length; day++) {
            DUE.is("8: weight on day " + day, x.weight(0, 1, 2, day), due[day]);
        }
        DUE.is("8: no such day", x.weight(0, 1, 2, -1), -1);
        DUE.is("8: no such day", x.weight(0, 1, 2, 100), -1);
        DUE.is("8: the last day", x.weight(0, 1, 2, 99), 0);
        DUE.is("8: no such door", x.weight(0, 1, 4, 0), -1);
        DUE.is("8: no such door", x.weight(0, 1, -1, 0), -1);
        DUE.is("8: to itself", x.weight(1, 1, 0, 0), -1);
        DUE.is("8: no such host", x.weight(3, 1, 0, 0), -1);
        DUE.is("8: no such host", x.weight(0, -1, 0, 0), -1);
    }

    private static void needs() {
        WallPlanner x = Setup.withHosts(2);
        x.law(7, 10, false);
        x.talk(0, 1, 0, 5, 9);
        DUE.is("9: less than the least", x.needed(0, 1, 0, 5), 0);
        x.talk(0, 1, 0, 4, 1);
        DUE.is("9: the least", x.needed(0, 1, 0, 5), 1);
        DUE.is("9: the day before", x.needed(0, 1, 0, 4), 0);
        DUE.is("9: no such day", x.needed(0, 1, 0, 100), -1);
        DUE.is("9: no such day", x.needed(0, 1, 0, -1), -1);
        DUE.is("9: to itself", x.needed(0, 0, 0, 5), -1);
        DUE.is("9: no such host", x.needed(0, 2, 0, 5), -1);
        DUE.is("9: no such door", x.needed(0, 1, 4, 5), -1);
        x.bar(0, 1, 0, true);
        DUE.is("9: barred", x.needed(0, 1, 0, 5), 0);
        x.must(1, 0, 3, true);
        DUE.is("9: a must without talks", x.needed(1, 0, 3, 99), 1);
    }
}
