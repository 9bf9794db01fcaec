import java.util.ArrayList;
import java.util.HashMap;
import java.util.List;
import java.util.Map;

/**
 * That a call leaves things as they were: an object that got it answers as its twin that did not, whatever is asked.
 * All questions are too many for the 512 calls of one object, so they go in rounds, each on an object made anew; in a
 * round the questions may change the object, for what is held inside shows in what comes of that.
 */
final class Twins {
    interface Making {
        WallPlanner make();
    }

    interface Asking {
        int ask(WallPlanner x);
    }

    private interface OfAWay {
        int ask(WallPlanner x, int from, int to, int door);
    }

    private record Question(String text, Asking asking) { }

    private static final int ROUND = 80;

    private final Due due;
    private final List<List<Question>> rounds = new ArrayList<>();
    private final Map<Making, List<int[]>> answersOf = new HashMap<>();

    private Twins(Due due) {
        this.due = due;
    }

    /** What the PLAN holds: rooms, rules and weights, strays and cost, what is let. */
    static Twins ofThePlan(Due due) {
        Twins twins = new Twins(due);
        twins.askForThePlan();
        return twins;
    }

    /** What the latest shut() and odd() left. */
    static Twins ofLists(Due due) {
        Twins twins = new Twins(due);
        twins.rounds.add(shuttings());
        twins.rounds.add(oddTalks());
        return twins;
    }

    /** All there is, the hosts, talks, musts, bars, law and prices too. */
    static Twins ofAll(Due due) {
        Twins twins = ofLists(due);
        twins.askForThePlan();
        twins.rounds.add(hostsAndTalks());
        twins.rounds.add(rulesNow());
        twins.rounds.add(daysOfOneWay());
        twins.askEveryWay("weight on day 9", (x, from, to, door) -> x.weight(from, to, door, 9));
        twins.askEveryWay("needed on day 9", (x, from, to, door) -> x.needed(from, to, door, 9));
        twins.askEveryWay("must off", (x, from, to, door) -> x.must(from, to, door, false) ? 1 : 0);
        twins.askEveryWay("bar off", (x, from, to, door) -> x.bar(from, to, door, false) ? 1 : 0);
        twins.rounds.add(newPlan(9));
        twins.rounds.add(newPlan(0));
        twins.rounds.add(newPlaces());
        twins.rounds.add(newShuts());
        twins.rounds.add(newOdds());
        return twins;
    }

    /** The answer is as due, and nothing of what is asked here is changed by the call. */
    void stay(String what, Making making, Asking call, int answer) {
        due.is(what, call.ask(making.make()), answer);
        List<int[]> answers = answersOf.computeIfAbsent(making, this::answers);
        for (int i = 0; i < rounds.size(); i++) {
            WallPlanner x = making.make();
            call.ask(x);
            List<Question> round = rounds.get(i);
            for (int j = 0; j < round.size(); j++) {
                due.is(what + ", then " + round.get(j).text, round.get(j).asking.ask(x), answers.get(i)[j]);
            }
        }
    }

    private List<int[]> answers(Making making) {
        List<int[]> answers = new ArrayList<>();
        for (List<Question> round : rounds) {
            WallPlanner x = making.make();
            answers.add(round.stream().mapToInt(question -> question.asking.ask(x)).toArray());
        }
        return answers;
    }

    private void askForThePlan() {
        rounds.add(roomsAndCounts());
        rounds.add(rulesThen());
        askEveryWay("lets", WallPlanner::lets);
    }

    private void askEveryWay(String text, OfAWay asking) {
        List<Question> round = new ArrayList<>();
        for (int way = 0; way < 256; way++) {
            int from = way / 32;
            int to = way / 4 % 8;
            int door = way % 4;
            if (from != to) {
                String name = text + " (" + from + ", " + to + ", " + door + ")";
                round.add(new Question(name, x -> asking.ask(x, from, to, door)));
            }
            if (round.size() == ROUND || way == 255) {
                rounds.add(round);
                round = new ArrayList<>();
            }
        }
    }

    private static List<Question> roomsAndCounts() {
        List<Question> round = new ArrayList<>();
        for (int i = 0; i < 8; i++) {
            int host = i;
            round.add(new Question("room(" + host + ")", x -> x.room(host)));
            round.add(new Question("reach(" + host + ")", x -> x.reach(host)));
        }
        for (int i = 2; i <= 5; i++) {
            int what = i;
            round.add(new Question("count(" + what + ")", x -> x.count(what)));
        }
        round.add(new Question("spread(0)", x -> x.spread(0)));
        round.add(new Question("spread(1)", x -> x.spread(1)));
        return round;
    }

    private static List<Question> rulesThen() {
        List<Question> round = new ArrayList<>();
        for (int i = 0; i < 15; i++) {
            for (int j = 0; j < 5; j++) {
                int k = i;
                int what = j;
                round.add(new Question("rule(" + k + ", " + what + ")", x -> x.rule(k, what)));
            }
        }
        return round;
    }

    private static List<Question> rulesNow() {
        List<Question> round = new ArrayList<>();
        for (int i = 0; i < 15; i++) {
            int k = i;
            round.add(new Question("rule(" + k + ", 5)", x -> x.rule(k, 5)));
        }
        return round;
    }

    private static List<Question> shuttings() {
        List<Question> round = new ArrayList<>();
        for (int i = 0; i <= 12; i++) {
            int k = i;
            round.add(new Question("shutting(" + k + ")", x -> x.shutting(k)));
        }
        return round;
    }

    private static List<Question> oddTalks() {
        List<Question> round = new ArrayList<>();
        for (int i = 0; i < 10; i++) {
            for (int j = 0; j < 5; j++) {
                int k = i;
                int what = j;
                round.add(new Question("oddTalk(" + k + ", " + what + ")", x -> x.oddTalk(k, what)));
            }
        }
        return round;
    }

    private static List<Question> hostsAndTalks() {
        List<Question> round = new ArrayList<>();
        round.add(new Question("count(0)", x -> x.count(0)));
        round.add(new Question("count(1)", x -> x.count(1)));
        round.add(new Question("talk(0, 1, 0, 0, 1)", x -> x.talk(0, 1, 0, 0, 1)));
        round.add(new Question("host(0)", x -> x.host(0)));
        return round;
    }

    private static List<Question> daysOfOneWay() {
        List<Question> round = new ArrayList<>();
        for (int i = 0; i < 30; i++) {
            int day = i;
            round.add(new Question("weight on day " + day, x -> x.weight(0, 2, 1, day)));
            round.add(new Question("needed on day " + day, x -> x.needed(0, 2, 1, day)));
        }
        return round;
    }

    private static List<Question> newPlan(int day) {
        List<Question> round = new ArrayList<>();
        round.add(new Question("plan(" + day + ")", x -> x.plan(day)));
        round.addAll(roomsAndCounts());
        return round;
    }

    private static List<Question> newPlaces() {
        List<Question> round = new ArrayList<>();
        for (int i = 0; i < 8; i++) {
            int host = i;
            round.add(new Question("place(" + host + ", 9)", x -> x.place(host, 9)));
        }
        round.addAll(roomsAndCounts());
        return round;
    }

    private static List<Question> newShuts() {
        List<Question> round = new ArrayList<>();
        for (int i = 0; i <= 8; i++) {
            int most = i;
            round.add(new Question("shut(" + most + ")", x -> x.shut(most)));
            for (int j = 0; j < 4; j++) {
                int k = j;
                round.add(new Question("shut(" + most + "), shutting(" + k + ")", x -> x.shutting(k)));
            }
        }
        return round;
    }

    private static List<Question> newOdds() {
        List<Question> round = new ArrayList<>();
        round.add(new Question("odd(9)", x -> x.odd(9)));
        round.addAll(oddTalks());
        return round;
    }
}
