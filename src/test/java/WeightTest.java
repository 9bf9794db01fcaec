/** "On a DAY d: the WEIGHT of a WAY ..", and when it is NEEDED: promises 6, 8 and 9 at the edges of days and sums. */
public final class WeightTest {
    private static final Due DUE = new Due();

    public static void main(String[] args) {
        windowsOfDays();
        windowsBeforeTheFirstDay();
        sumsOfAllTalks();
        talksOfOtherWays();
        leastSums();
        leastSumsOfThePlan();
        atFirst();
        mustsAreNeeded();
        barredAreNot();
        neitherIsByWeight();
        lawOfNow();
        DUE.end();
    }

    /** "the sum of COUNTS of its TALKS on DAYS d - WINDOW + 1 .. d". */
    private static void windowsOfDays() {
        int[] windows = {1, 2, 6, 7, 8, 50, 98, 99, 100};
        int[] told = {0, 1, 49, 98, 99};
        for (int window : windows) {
            for (int day : told) {
                WallPlanner x = Setup.withHosts(2);
                x.law(window, 1, false);
                x.talk(0, 1, 0, day, 5);
                for (int d = 0; d < 100; d++) {
                    boolean in = d >= day && d <= day + window - 1;
                    String what = "told on day " + day + ", window " + window + ", asked on day " + d;
                    DUE.is("8: " + what, x.weight(0, 1, 0, d), in ? 5 : 0);
                    DUE.is("9: " + what, x.needed(0, 1, 0, d), in ? 1 : 0);
                }
            }
        }
    }

    /** The days before day 0 are none, and no later ones either. */
    private static void windowsBeforeTheFirstDay() {
        WallPlanner x = Setup.withHosts(2);
        x.law(100, 1, false);
        x.talk(0, 1, 0, 99, 5);
        x.talk(0, 1, 0, 1, 30);
        DUE.is("8: day 0", x.weight(0, 1, 0, 0), 0);
        DUE.is("8: day 1", x.weight(0, 1, 0, 1), 30);
        DUE.is("8: day 98", x.weight(0, 1, 0, 98), 30);
        DUE.is("8: day 99", x.weight(0, 1, 0, 99), 35);
    }

    private static void sumsOfAllTalks() {
        WallPlanner x = Setup.withHosts(2);
        x.law(100, 9999, false);
        for (int i = 0; i < 300; i++) {
            x.talk(1, 0, 3, 99 - i / 3, 999);
        }
        DUE.is("8: three a day, all days", x.weight(1, 0, 3, 99), 299700);
        DUE.is("8: three a day, one day", x.weight(1, 0, 3, 0), 2997);
        DUE.is("9: three days are less than the least", x.needed(1, 0, 3, 2), 0);
        DUE.is("9: four days are more", x.needed(1, 0, 3, 3), 1);
    }

    /** A weight is of this way alone: not the way back, not another door, not another host. */
    private static void talksOfOtherWays() {
        WallPlanner x = Setup.withHosts(8);
        for (int way = 0; way < 256; way++) {
            if (way / 32 != way / 4 % 8) {
                x.talk(way / 32, way / 4 % 8, way % 4, 9, 1 + way);
            }
        }
        for (int way = 0; way < 256; way++) {
            if (way / 32 != way / 4 % 8) {
                DUE.is("8: of one way alone", x.weight(way / 32, way / 4 % 8, way % 4, 9), 1 + way);
            }
        }
    }

    /** "or not BARRED and its WEIGHT is LEAST or more". */
    private static void leastSums() {
        int[] leasts = {1, 2, 3, 998, 999, 1000, 9998, 9999};
        for (int least : leasts) {
            WallPlanner x = Setup.withHosts(2);
            x.law(1, least, false);
            weigh(x, least - 1);
            DUE.is("8: one less than " + least, x.weight(0, 1, 0, 9), least - 1);
            DUE.is("9: one less than " + least, x.needed(0, 1, 0, 9), 0);
            x.talk(0, 1, 0, 9, 1);
            DUE.is("9: just " + least, x.needed(0, 1, 0, 9), 1);
            x.talk(0, 1, 0, 9, 1);
            DUE.is("9: one more than " + least, x.needed(0, 1, 0, 9), 1);
        }
    }

    private static void weigh(WallPlanner x, int sum) {
        for (int left = sum; left > 0; left -= 999) {
            x.talk(0, 1, 0, 9, Math.min(999, left));
        }
    }

    /** The same edge, seen by plan() and place(). */
    private static void leastSumsOfThePlan() {
        WallPlanner x = Setup.withHosts(2);
        x.law(1, 9999, false);
        weigh(x, 9998);
        DUE.is("10: one less than the least", x.plan(9), 0);
        x.talk(0, 1, 0, 9, 1);
        DUE.is("10: the least", x.plan(9), 5);
        DUE.is("12: the least", x.rule(0, 4), 9999);
        x.law(1, 1, false);
        DUE.is("10: the day before", x.plan(8), 0);
        DUE.is("10: the day behind", x.plan(10), 0);
        x.host(0);
        x.talk(2, 0, 0, 9, 1);
        DUE.is("20: the day", x.place(2, 9), 2);
        DUE.is("21: two rules", x.count(3), 2);
    }

    /** "WINDOW .. (7 at first), LEAST .. (1 at first), STRICT or not (not at first); prices .. (5, 1 at first)". */
    private static void atFirst() {
        WallPlanner x = Setup.withMarks(0, 1);
        x.talk(0, 1, 0, 10, 1);
        DUE.is("6: day 7 of the window", x.weight(0, 1, 0, 16), 1);
        DUE.is("6: day 8 of the window", x.weight(0, 1, 0, 17), 0);
        DUE.is("6: a least of 1", x.needed(0, 1, 0, 16), 1);
        DUE.is("6: nothing is less than 1", x.needed(0, 1, 0, 17), 0);
        DUE.is("7: a rule for 5", x.plan(16), 5);
        DUE.is("7: no rule", x.plan(17), 0);
        x.talk(0, 1, 1, 10, 1);
        DUE.is("7: six strays for 1 each", x.plan(10), 6);
        DUE.is("6: not strict", x.room(1), 0);
    }

    /** "It is NEEDED if it is a MUST". */
    private static void mustsAreNeeded() {
        WallPlanner x = Setup.withHosts(2);
        x.law(1, 9999, false);
        x.must(0, 1, 3, true);
        int[] days = {0, 1, 50, 98, 99};
        for (int day : days) {
            DUE.is("9: a must without talk", x.needed(0, 1, 3, day), 1);
            DUE.is("8: a must has no weight by it", x.weight(0, 1, 3, day), 0);
        }
        x.talk(0, 1, 3, 50, 999);
        DUE.is("9: a must with talk", x.needed(0, 1, 3, 50), 1);
        x.must(0, 1, 3, false);
        DUE.is("9: no must any more", x.needed(0, 1, 3, 50), 0);
    }

    private static void barredAreNot() {
        WallPlanner x = Setup.withHosts(2);
        for (int i = 0; i < 20; i++) {
            x.talk(0, 1, 3, 50, 999);
        }
        DUE.is("9: not barred yet", x.needed(0, 1, 3, 50), 1);
        x.bar(0, 1, 3, true);
        DUE.is("9: barred, of any weight", x.needed(0, 1, 3, 50), 0);
        DUE.is("8: barred, its weight", x.weight(0, 1, 3, 50), 19980);
        DUE.is("10: barred, no rule", x.plan(50), 0);
        DUE.is("12: barred, no rule", x.rule(0, 0), -1);
        x.bar(0, 1, 3, false);
        DUE.is("9: barred no more", x.needed(0, 1, 3, 50), 1);
    }

    private static void neitherIsByWeight() {
        WallPlanner x = Setup.withHosts(2);
        for (int way = 0; way < 8; way++) {
            DUE.is("9: nothing told", x.needed(way % 2, 1 - way % 2, way / 2, 0), 0);
        }
        x.must(0, 1, 0, true);
        x.bar(1, 0, 0, true);
        DUE.is("9: another door of a must", x.needed(0, 1, 1, 0), 0);
        x.talk(1, 0, 1, 0, 1);
        DUE.is("9: another door of a barred way", x.needed(1, 0, 1, 0), 1);
    }

    /** weight and needed go by the law as it is, not as it was when talk was told. */
    private static void lawOfNow() {
        WallPlanner x = Setup.withHosts(2);
        x.law(1, 50, false);
        x.talk(0, 1, 0, 5, 20);
        x.talk(0, 1, 0, 6, 30);
        DUE.is("8: a window of 1", x.weight(0, 1, 0, 6), 30);
        DUE.is("9: a window of 1", x.needed(0, 1, 0, 6), 0);
        x.law(2, 50, true);
        DUE.is("8: a window of 2", x.weight(0, 1, 0, 6), 50);
        DUE.is("9: a window of 2", x.needed(0, 1, 0, 6), 1);
        x.law(2, 51, true);
        DUE.is("9: a least of 51", x.needed(0, 1, 0, 6), 0);
        x.law(3, 20, true);
        DUE.is("8: a window of 3", x.weight(0, 1, 0, 7), 50);
        DUE.is("8: a window of 3", x.weight(0, 1, 0, 8), 30);
    }
}
