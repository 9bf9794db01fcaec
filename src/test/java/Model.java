import java.util.ArrayList;
import java.util.HashSet;
import java.util.List;
import java.util.Set;

/**
 * The document once more, in its plainest form: sets of ways, all rooms tried one after the other, no bits and no
 * bounds. ModelTest holds WallPlanner against it.
 */
final class Model {
    record Way(int from, int to, int door) { }

    record Talk(Way way, int day, int count) { }

    record Rule(int first, int second, int door) { }

    record Odd(Talk talk, int near) { }

    private final List<Integer> marks = new ArrayList<>();
    private final List<Talk> talks = new ArrayList<>();
    private final Set<Way> musts = new HashSet<>();
    private final Set<Way> bars = new HashSet<>();
    private int window = 7;
    private int least = 1;
    private boolean strict = false;
    private int rulePrice = 5;
    private int strayPrice = 1;

    private boolean planned = false;
    private final int[] rooms = {-1, -1, -1, -1, -1, -1, -1, -1};
    private final int[][][] weights = new int[8][8][4];
    private boolean[][][] needs = new boolean[8][8][4];
    private int cost = -1;

    private List<Integer> shutThen = new ArrayList<>();
    private List<Odd> oddThen = new ArrayList<>();

    private static boolean in(int n, int lo, int hi) {
        return lo <= n && n <= hi;
    }

    private boolean isWay(int from, int to, int door) {
        return in(from, 0, marks.size() - 1) && in(to, 0, marks.size() - 1) && from != to && in(door, 0, 3);
    }

    int host(int mark) {
        if (!in(mark, 0, 3) || marks.size() == 8) {
            return -1;
        }
        marks.add(mark);
        return marks.size() - 1;
    }

    int talk(int from, int to, int door, int day, int count) {
        if (!isWay(from, to, door) || !in(day, 0, 99) || !in(count, 1, 999) || talks.size() == 300) {
            return -1;
        }
        talks.add(new Talk(new Way(from, to, door), day, count));
        return talks.size();
    }

    boolean must(int from, int to, int door, boolean on) {
        Way way = new Way(from, to, door);
        if (!isWay(from, to, door) || bars.contains(way)) {
            return false;
        }
        return on ? musts.add(way) : musts.remove(way);
    }

    boolean bar(int from, int to, int door, boolean on) {
        Way way = new Way(from, to, door);
        if (!isWay(from, to, door) || musts.contains(way)) {
            return false;
        }
        return on ? bars.add(way) : bars.remove(way);
    }

    boolean law(int window, int least, boolean strict) {
        if (!in(window, 1, 100) || !in(least, 1, 9999)) {
            return false;
        }
        this.window = window;
        this.least = least;
        this.strict = strict;
        return true;
    }

    boolean prices(int rule, int stray) {
        if (!in(rule, 0, 99) || !in(stray, 0, 99)) {
            return false;
        }
        rulePrice = rule;
        strayPrice = stray;
        return true;
    }

    int weight(int from, int to, int door, int day) {
        if (!isWay(from, to, door) || !in(day, 0, 99)) {
            return -1;
        }
        int sum = 0;
        for (Talk talk : talks) {
            if (talk.way().equals(new Way(from, to, door)) && in(talk.day(), day - window + 1, day)) {
                sum += talk.count();
            }
        }
        return sum;
    }

    int needed(int from, int to, int door, int day) {
        int weight = weight(from, to, door, day);
        if (weight == -1) {
            return -1;
        }
        Way way = new Way(from, to, door);
        return musts.contains(way) || !bars.contains(way) && weight >= least ? 1 : 0;
    }

    private boolean[][][] needsOf(int day) {
        boolean[][][] all = new boolean[8][8][4];
        for (int from = 0; from < 8; from++) {
            for (int to = 0; to < 8; to++) {
                for (int door = 0; door < 4; door++) {
                    all[from][to][door] = needed(from, to, door, day) == 1;
                }
            }
        }
        return all;
    }

    private static boolean[][][] rulesOf(int[] rooms, boolean[][][] needs) {
        boolean[][][] rules = new boolean[8][8][4];
        for (int from = 0; from < 8; from++) {
            for (int to = 0; to < 8; to++) {
                for (int door = 0; door < 4; door++) {
                    if (rooms[from] != -1 && rooms[to] != -1 && rooms[from] != rooms[to] && needs[from][to][door]) {
                        rules[rooms[from]][rooms[to]][door] = true;
                    }
                }
            }
        }
        return rules;
    }

    private static boolean isLet(int[] rooms, boolean[][][] rules, int from, int to, int door) {
        if (from == to || rooms[from] == -1 || rooms[to] == -1) {
            return false;
        }
        return rooms[from] == rooms[to] || rules[rooms[from]][rooms[to]][door];
    }

    /** -1: a barred way would be let. */
    private int costOf(int[] rooms, boolean[][][] needs) {
        boolean[][][] rules = rulesOf(rooms, needs);
        int sum = 0;
        for (int a = 0; a < 8; a++) {
            for (int b = 0; b < 8; b++) {
                for (int door = 0; door < 4; door++) {
                    sum += rules[a][b][door] ? rulePrice : 0;
                    if (isLet(rooms, rules, a, b, door)) {
                        if (bars.contains(new Way(a, b, door))) {
                            return -1;
                        }
                        sum += needs[a][b][door] ? 0 : strayPrice;
                    }
                }
            }
        }
        return sum;
    }

    private boolean mixes(int[] rooms) {
        for (int a = 0; a < marks.size(); a++) {
            for (int b = 0; b < marks.size(); b++) {
                if (rooms[a] == rooms[b] && marks.get(a).intValue() != marks.get(b).intValue()) {
                    return true;
                }
            }
        }
        return false;
    }

    private void everyRooms(int[] rooms, int host, int used, List<int[]> all) {
        if (host == marks.size()) {
            all.add(rooms.clone());
            return;
        }
        for (int room = 0; room <= used; room++) {
            rooms[host] = room;
            everyRooms(rooms, host + 1, Math.max(used, room + 1), all);
        }
        rooms[host] = -1;
    }

    int plan(int day) {
        if (!in(day, 0, 99) || marks.isEmpty()) {
            return -1;
        }
        boolean[][][] needsThen = needsOf(day);
        List<int[]> all = new ArrayList<>();
        everyRooms(new int[] {-1, -1, -1, -1, -1, -1, -1, -1}, 0, 0, all);
        int[] best = null;
        int bestCost = -1;
        for (int[] one : all) {
            int now = strict && mixes(one) ? -1 : costOf(one, needsThen);
            if (now != -1 && (best == null || now < bestCost)) {
                best = one;
                bestCost = now;
            }
        }
        settle(best, bestCost, needsThen, day);
        return cost;
    }

    private void settle(int[] best, int bestCost, boolean[][][] needsThen, int day) {
        System.arraycopy(best, 0, rooms, 0, 8);
        planned = true;
        cost = bestCost;
        needs = needsThen;
        for (int from = 0; from < 8; from++) {
            for (int to = 0; to < 8; to++) {
                for (int door = 0; door < 4; door++) {
                    weights[from][to][door] = weight(from, to, door, day);
                }
            }
        }
    }

    int room(int host) {
        return in(host, 0, marks.size() - 1) ? rooms[host] : -1;
    }

    private List<Rule> rules() {
        boolean[][][] have = rulesOf(rooms, needs);
        List<Rule> all = new ArrayList<>();
        for (int a = 0; a < 8; a++) {
            for (int b = 0; b < 8; b++) {
                for (int door = 0; door < 4; door++) {
                    if (have[a][b][door]) {
                        all.add(new Rule(a, b, door));
                    }
                }
            }
        }
        return all;
    }

    private List<Way> waysBy(Rule rule) {
        List<Way> ways = new ArrayList<>();
        for (int from = 0; from < 8; from++) {
            for (int to = 0; to < 8; to++) {
                if (rooms[from] == rule.first() && rooms[to] == rule.second()) {
                    ways.add(new Way(from, to, rule.door()));
                }
            }
        }
        return ways;
    }

    private boolean canShut(Rule rule) {
        for (Way way : waysBy(rule)) {
            if (musts.contains(way)) {
                return false;
            }
        }
        return true;
    }

    private int sumBy(Rule rule, int atLeast) {
        int sum = 0;
        for (Way way : waysBy(rule)) {
            if (needs[way.from()][way.to()][way.door()]) {
                sum += Math.max(atLeast, weights[way.from()][way.to()][way.door()]);
            }
        }
        return sum;
    }

    private int needsBy(Rule rule) {
        int sum = 0;
        for (Way way : waysBy(rule)) {
            sum += needs[way.from()][way.to()][way.door()] ? 1 : 0;
        }
        return sum;
    }

    int rule(int k, int what) {
        List<Rule> all = rules();
        if (!in(k, 0, all.size() - 1)) {
            return -1;
        }
        Rule rule = all.get(k);
        return switch (what) {
            case 0 -> rule.first();
            case 1 -> rule.second();
            case 2 -> rule.door();
            case 3 -> needsBy(rule);
            case 4 -> sumBy(rule, 0);
            case 5 -> canShut(rule) ? 1 : 0;
            default -> -1;
        };
    }

    int lets(int from, int to, int door) {
        if (!isWay(from, to, door) || rooms[from] == -1 || rooms[to] == -1) {
            return -1;
        }
        if (rooms[from] == rooms[to]) {
            return 1;
        }
        return rules().contains(new Rule(rooms[from], rooms[to], door)) ? 2 : 0;
    }

    private int reachBy(List<Rule> rules, int host) {
        Set<Integer> seen = new HashSet<>();
        List<Integer> todo = new ArrayList<>();
        seen.add(host);
        todo.add(host);
        while (!todo.isEmpty()) {
            int at = todo.remove(todo.size() - 1);
            for (int to = 0; to < 8; to++) {
                boolean open = rooms[to] != -1 && rooms[to] == rooms[at];
                for (Rule rule : rules) {
                    open = open || rooms[at] == rule.first() && rooms[to] == rule.second();
                }
                if (open && seen.add(to)) {
                    todo.add(to);
                }
            }
        }
        return seen.size() - 1;
    }

    int reach(int host) {
        return room(host) == -1 ? -1 : reachBy(rules(), host);
    }

    private int spreadBy(List<Rule> rules) {
        int most = -1;
        for (int host = 0; host < 8; host++) {
            if (rooms[host] != -1) {
                most = Math.max(most, reachBy(rules, host));
            }
        }
        return most;
    }

    int spread(int what) {
        if (!planned || !in(what, 0, 1)) {
            return -1;
        }
        int most = spreadBy(rules());
        for (int host = 0; host < 8; host++) {
            if (what == 1 && reach(host) == most) {
                return host;
            }
        }
        return most;
    }

    int shut(int most) {
        if (!planned || !in(most, 0, 8)) {
            return -1;
        }
        List<Rule> all = rules();
        List<Integer> can = new ArrayList<>();
        for (int k = 0; k < all.size(); k++) {
            if (canShut(all.get(k))) {
                can.add(k);
            }
        }
        if (can.size() > 12) {
            return -2;
        }
        int best = -1;
        for (int set = 0; set < 1 << can.size(); set++) {
            int sum = 0;
            List<Integer> gone = new ArrayList<>();
            List<Rule> left = new ArrayList<>(all);
            for (int i = 0; i < can.size(); i++) {
                if ((set & 1 << i) != 0) {
                    sum += sumBy(all.get(can.get(i)), 1);
                    gone.add(can.get(i));
                    left.remove(all.get(can.get(i)));
                }
            }
            if ((best == -1 || sum < best) && spreadBy(left) <= most) {
                best = sum;
                shutThen = gone;
            }
        }
        return best;
    }

    int shutting(int k) {
        return in(k, 0, shutThen.size() - 1) ? shutThen.get(k) : -1;
    }

    int odd(int day) {
        if (!planned || !in(day, 0, 99)) {
            return -1;
        }
        oddThen = new ArrayList<>();
        for (Talk talk : talks) {
            Way way = talk.way();
            if (talk.day() == day && lets(way.from(), way.to(), way.door()) <= 0) {
                oddThen.add(new Odd(talk, nearOf(way)));
            }
        }
        return oddThen.size();
    }

    private int nearOf(Way way) {
        int here = rooms[way.from()];
        int there = rooms[way.to()];
        if (here == -1 || there == -1) {
            return 0;
        }
        int near = 0;
        for (Rule rule : rules()) {
            if (rule.first() == here && rule.second() == there && rule.door() != way.door()) {
                near |= 1;
            }
            if (rule.first() == there && rule.second() == here && rule.door() == way.door()) {
                near |= 2;
            }
        }
        return near;
    }

    int oddTalk(int k, int what) {
        if (!in(k, 0, oddThen.size() - 1)) {
            return -1;
        }
        Odd odd = oddThen.get(k);
        return switch (what) {
            case 0 -> odd.talk().way().from();
            case 1 -> odd.talk().way().to();
            case 2 -> odd.talk().way().door();
            case 3 -> odd.talk().count();
            case 4 -> odd.near();
            default -> -1;
        };
    }

    int place(int host, int day) {
        if (!in(host, 0, marks.size() - 1) || !in(day, 0, 99) || rooms[host] != -1 || !planned) {
            return -1;
        }
        boolean[][][] needsThen = needsOf(day);
        int[] best = null;
        int bestCost = -1;
        for (int room = 0; room <= count(2); room++) {
            int[] one = rooms.clone();
            one[host] = room;
            int now = strict && isAmongUnlike(one, host) ? -1 : costOf(one, needsThen);
            if (now != -1 && (best == null || now < bestCost)) {
                best = one;
                bestCost = now;
            }
        }
        if (best == null) {
            return -1;
        }
        settle(best, bestCost, needsThen, day);
        return rooms[host];
    }

    private boolean isAmongUnlike(int[] rooms, int host) {
        for (int other = 0; other < marks.size(); other++) {
            if (rooms[other] == rooms[host] && marks.get(other).intValue() != marks.get(host).intValue()) {
                return true;
            }
        }
        return false;
    }

    private int strays() {
        int sum = 0;
        boolean[][][] have = rulesOf(rooms, needs);
        for (int from = 0; from < 8; from++) {
            for (int to = 0; to < 8; to++) {
                for (int door = 0; door < 4; door++) {
                    sum += isLet(rooms, have, from, to, door) && !needs[from][to][door] ? 1 : 0;
                }
            }
        }
        return sum;
    }

    int count(int what) {
        Set<Integer> used = new HashSet<>();
        for (int room : rooms) {
            if (room != -1) {
                used.add(room);
            }
        }
        return switch (what) {
            case 0 -> marks.size();
            case 1 -> talks.size();
            case 2 -> used.size();
            case 3 -> rules().size();
            case 4 -> strays();
            case 5 -> planned ? cost : -1;
            default -> -1;
        };
    }
}
