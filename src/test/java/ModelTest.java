import java.util.ArrayList;
import java.util.List;
import java.util.Random;

/**
 * Long runs of calls, each answer held against a plain model of the document's words.
 * The model counts road ends and walks closed rounds; it shares no way of reckoning with TJoins.
 * The seeds are fixed, so every run is the same.
 */
public final class ModelTest {
    private static final int RUNS = 300;
    private static final int CALLS = 512;
    private static final int[] ODD_NUMBERS = {
        Integer.MIN_VALUE, -2001, -10, -9, -1, 0, 1, 2, 6, 7, 8, 11, 12, 13, 20, 21, 31, 32, 33,
        63, 64, 127, 128, 129, 4095, 4096, 4097, 1 << 16, 1 << 30, Integer.MAX_VALUE
    };

    private static final class Road {
        final int p;
        final int q;
        int weight;

        Road(int p, int q, int weight) {
            this.p = p;
            this.q = q;
            this.weight = weight;
        }
    }

    private final Random random;
    private final int n;
    private final boolean lowWeights;
    private final List<Road> roads = new ArrayList<>();
    private final boolean[] wanted = new boolean[7];
    private final TJoins x;
    private String call = "";
    private int due;
    private int got;

    private ModelTest(int seed) {
        random = new Random(seed);
        int places = seed % 11 - 1;
        n = Math.min(7, Math.max(2, places));
        lowWeights = seed % 3 != 0;
        x = new TJoins(places);
    }

    public static void main(String[] args) {
        int wrong = 0;
        for (int seed = 0; seed < RUNS; seed++) {
            ModelTest run = new ModelTest(seed);
            for (int i = 0; i < CALLS; i++) {
                run.step();
                if (run.got != run.due) {
                    wrong++;
                    System.out.println("run " + seed + ", call " + i + ": " + run.call + " answered " + run.got
                        + ", due is " + run.due);
                    break;
                }
            }
        }
        System.out.println(wrong == 0 ? "all answers are as due" : wrong + " runs went wrong");
        if (wrong != 0) {
            System.exit(1);
        }
    }

    private int number(int from, int below) {
        if (random.nextInt(12) == 0) {
            return ODD_NUMBERS[random.nextInt(ODD_NUMBERS.length)];
        }
        return below <= from ? from : from + random.nextInt(below - from);
    }

    private int place() {
        return number(0, n);
    }

    private int roadNumber() {
        return number(0, roads.size());
    }

    private int weight() {
        int span = random.nextInt(3) == 0 ? 3 : 21;
        return number(lowWeights ? Math.max(-9, 1 - span) : 0, span);
    }

    private void step() {
        switch (random.nextInt(21)) {
            case 0, 1, 2, 3 -> road(place(), place(), weight());
            case 4, 5 -> remove(roadNumber());
            case 6, 7 -> weigh(roadNumber(), weight());
            case 8 -> want(number(0, 1 << n));
            case 9, 10 -> turn(place());
            case 11 -> answer("roads()", x.roads(), roads.size());
            case 12 -> isJoin(number(0, 1 << roads.size()));
            case 13 -> answer("possible()", x.possible(), bestOf(wanted, -1, -1) < 0 ? 0 : 1);
            case 14 -> answer("joins()", x.joins(), countJoins());
            case 15 -> answer("best()", x.best(), weightOrNone(bestOf(wanted, -1, -1)));
            case 16 -> answer("bestSet()", x.bestSet(), bestOf(wanted, -1, -1));
            case 17 -> bestWithAndWithout(roadNumber());
            case 18 -> between(place(), place());
            case 19 -> answer("postman()", x.postman(), postman());
            default -> answer("oddPlaces()", x.oddPlaces(), oddPlaces());
        }
    }

    private void answer(String call, int got, int due) {
        this.call = call;
        this.got = got;
        this.due = due;
    }

    private boolean goodPlace(int p) {
        return 0 <= p && p <= n - 1;
    }

    private boolean goodRoad(int e) {
        return 0 <= e && e <= roads.size() - 1;
    }

    private static boolean goodWeight(int w) {
        return -9 <= w && w <= 20;
    }

    private void road(int p, int q, int w) {
        int answer;
        if (!goodPlace(p) || !goodPlace(q)) {
            answer = -1;
        } else if (!goodWeight(w)) {
            answer = -2;
        } else if (roads.size() == 12) {
            answer = -3;
        } else {
            answer = roads.size();
            roads.add(new Road(p, q, w));
        }
        answer("road(" + p + ", " + q + ", " + w + ")", x.road(p, q, w), answer);
    }

    private void remove(int e) {
        int answer = -1;
        if (goodRoad(e)) {
            roads.remove(e);
            answer = roads.size();
        }
        answer("remove(" + e + ")", x.remove(e), answer);
    }

    private void weigh(int e, int w) {
        int answer;
        if (!goodRoad(e)) {
            answer = -1;
        } else if (!goodWeight(w)) {
            answer = -2;
        } else {
            answer = roads.get(e).weight;
            roads.get(e).weight = w;
        }
        answer("weigh(" + e + ", " + w + ")", x.weigh(e, w), answer);
    }

    private int wantedNumber() {
        int sum = 0;
        for (int p = 0; p < n; p++) {
            sum += wanted[p] ? (int) Math.pow(2, p) : 0;
        }
        return sum;
    }

    private void want(int set) {
        int answer = -1;
        if (set >= 0 && set <= Math.pow(2, n) - 1) {
            answer = wantedNumber();
            for (int p = 0; p < n; p++) {
                wanted[p] = has(set, p);
            }
        }
        answer("want(" + set + ")", x.want(set), answer);
    }

    private void turn(int p) {
        int answer = -1;
        if (goodPlace(p)) {
            wanted[p] = !wanted[p];
            answer = wantedNumber();
        }
        answer("turn(" + p + ")", x.turn(p), answer);
    }

    private void isJoin(int set) {
        int answer = -1;
        if (set >= 0 && set <= Math.pow(2, roads.size()) - 1) {
            answer = joinsFor(set, wanted) ? 1 : 0;
        }
        answer("isJoin(" + set + ")", x.isJoin(set), answer);
    }

    private void bestWithAndWithout(int e) {
        boolean with = random.nextBoolean();
        int answer = -2000;
        if (goodRoad(e)) {
            answer = weightOrNone(with ? bestOf(wanted, e, -1) : bestOf(wanted, -1, e));
        }
        if (with) {
            answer("bestWith(" + e + ")", x.bestWith(e), answer);
        } else {
            answer("bestWithout(" + e + ")", x.bestWithout(e), answer);
        }
    }

    private void between(int p, int q) {
        int answer = -2000;
        if (goodPlace(p) && goodPlace(q)) {
            boolean[] both = new boolean[7];
            if (p != q) {
                both[p] = true;
                both[q] = true;
            }
            answer = weightOrNone(bestOf(both, -1, -1));
        }
        answer("between(" + p + ", " + q + ")", x.between(p, q), answer);
    }

    private static boolean has(int set, int member) {
        return set / (1 << member) % 2 == 1;
    }

    private int[] endsAtPlaces(int set) {
        int[] ends = new int[7];
        for (int e = 0; e < roads.size(); e++) {
            if (has(set, e)) {
                ends[roads.get(e).p]++;
                ends[roads.get(e).q]++;
            }
        }
        return ends;
    }

    private boolean joinsFor(int set, boolean[] places) {
        int[] ends = endsAtPlaces(set);
        for (int p = 0; p < n; p++) {
            if ((ends[p] % 2 == 1) != places[p]) {
                return false;
            }
        }
        return true;
    }

    private int weightOf(int set) {
        int sum = 0;
        for (int e = 0; e < roads.size(); e++) {
            sum += has(set, e) ? roads.get(e).weight : 0;
        }
        return sum;
    }

    private int countJoins() {
        int found = 0;
        for (int set = (1 << roads.size()) - 1; set >= 0; set--) {
            found += joinsFor(set, wanted) ? 1 : 0;
        }
        return found;
    }

    /** Goes from the greatest number down, so that a tie is seen from the other side. */
    private int bestOf(boolean[] places, int with, int without) {
        int best = -1;
        for (int set = (1 << roads.size()) - 1; set >= 0; set--) {
            if (with >= 0 && !has(set, with) || without >= 0 && has(set, without) || !joinsFor(set, places)) {
                continue;
            }
            if (best < 0 || weightOf(set) <= weightOf(best)) {
                best = set;
            }
        }
        return best;
    }

    private int weightOrNone(int set) {
        return set < 0 ? -1000 : weightOf(set);
    }

    private int oddPlaces() {
        int[] ends = endsAtPlaces((1 << roads.size()) - 1);
        int sum = 0;
        for (int p = 0; p < 7; p++) {
            sum += ends[p] % 2 * (1 << p);
        }
        return sum;
    }

    private int postman() {
        for (Road road : roads) {
            if (road.weight < 0) {
                return -1;
            }
        }
        for (Road from : roads) {
            if (!reachesAll(from)) {
                return -2;
            }
        }
        int least = roads.isEmpty() ? 0 : Integer.MAX_VALUE;
        for (int twice = 0; twice < 1 << roads.size(); twice++) {
            if (weightOf(twice) < least && hasClosedRound(twice)) {
                least = weightOf(twice);
            }
        }
        return least;
    }

    private boolean reachesAll(Road from) {
        boolean[] seen = new boolean[7];
        List<Integer> open = new ArrayList<>(List.of(from.p));
        seen[from.p] = true;
        while (!open.isEmpty()) {
            int at = open.remove(0);
            for (Road road : roads) {
                int to = road.p == at ? road.q : road.q == at ? road.p : at;
                if (!seen[to]) {
                    seen[to] = true;
                    open.add(to);
                }
            }
        }
        for (Road road : roads) {
            if (!seen[road.p]) {
                return false;
            }
        }
        return true;
    }

    /** Walks: goes on along unused roads till stuck, then back to where another way leads on. */
    private boolean hasClosedRound(int twice) {
        List<Road> left = new ArrayList<>(roads);
        for (int e = 0; e < roads.size(); e++) {
            if (has(twice, e)) {
                left.add(roads.get(e));
            }
        }
        int all = left.size();
        List<Integer> stack = new ArrayList<>(List.of(left.get(0).p));
        List<Integer> round = new ArrayList<>();
        List<int[]> steps = new ArrayList<>();
        while (!stack.isEmpty()) {
            int at = stack.get(stack.size() - 1);
            Road next = null;
            for (Road road : left) {
                if (road.p == at || road.q == at) {
                    next = road;
                    break;
                }
            }
            if (next == null) {
                round.add(stack.remove(stack.size() - 1));
            } else {
                left.remove(next);
                int to = next.p == at ? next.q : next.p;
                steps.add(new int[] {at, to});
                stack.add(to);
            }
        }
        return round.size() == all + 1 && round.get(0).equals(round.get(all)) && follows(round, steps);
    }

    /** The round is one only if each of its steps is along a road that was taken. */
    private static boolean follows(List<Integer> round, List<int[]> steps) {
        List<int[]> left = new ArrayList<>(steps);
        for (int i = 0; i + 1 < round.size(); i++) {
            int a = round.get(i);
            int b = round.get(i + 1);
            int found = -1;
            for (int k = 0; k < left.size(); k++) {
                int[] step = left.get(k);
                if (step[0] == a && step[1] == b || step[0] == b && step[1] == a) {
                    found = k;
                }
            }
            if (found < 0) {
                return false;
            }
            left.remove(found);
        }
        return left.isEmpty();
    }
}
