/**
 * Sets of roads that leave just the wanted places with an odd number of road ends, at least weight.
 *
 * With at most 12 roads there are at most 4096 sets of them, so to find joins all sets are looked at.
 */
public final class TJoins {
    private static final int LEAST_PLACES = 2;
    private static final int MOST_PLACES = 7;
    private static final int MOST_ROADS = 12;
    private static final int LEAST_WEIGHT = -9;
    private static final int MOST_WEIGHT = 20;

    private static final int NO_SET = -1;
    private static final int NO_JOIN = -1000;
    private static final int NOT_GOOD = -2000;

    private final int placeCount;
    private int roadCount = 0;
    private int wanted = 0;

    /** The set of places where the road has an end: one place alone if it joins a place to itself. */
    private final int[] touched = new int[MOST_ROADS];
    /** The set of places where the road has an odd number of ends: empty if it joins a place to itself. */
    private final int[] odd = new int[MOST_ROADS];
    private final int[] weights = new int[MOST_ROADS];

    public TJoins(int places) {
        if (places < LEAST_PLACES) {
            placeCount = LEAST_PLACES;
        } else if (places > MOST_PLACES) {
            placeCount = MOST_PLACES;
        } else {
            placeCount = places;
        }
    }

    public int road(int p, int q, int weight) {
        if (!isPlace(p) || !isPlace(q)) {
            return -1;
        }
        if (!isWeight(weight)) {
            return -2;
        }
        if (roadCount >= MOST_ROADS) {
            return -3;
        }
        int number = roadCount;
        touched[number] = (1 << p) | (1 << q);
        odd[number] = (1 << p) ^ (1 << q);
        weights[number] = weight;
        roadCount++;
        return number;
    }

    public int remove(int road) {
        if (!isRoad(road)) {
            return -1;
        }
        for (int e = road; e + 1 < roadCount; e++) {
            touched[e] = touched[e + 1];
            odd[e] = odd[e + 1];
            weights[e] = weights[e + 1];
        }
        roadCount--;
        return roadCount;
    }

    public int weigh(int road, int weight) {
        if (!isRoad(road)) {
            return -1;
        }
        if (!isWeight(weight)) {
            return -2;
        }
        int before = weights[road];
        weights[road] = weight;
        return before;
    }

    public int want(int set) {
        if (!isSetOf(placeCount, set)) {
            return -1;
        }
        int before = wanted;
        wanted = set;
        return before;
    }

    public int turn(int p) {
        if (!isPlace(p)) {
            return -1;
        }
        wanted ^= 1 << p;
        return wanted;
    }

    public int roads() {
        return roadCount;
    }

    public int isJoin(int set) {
        if (!isSetOf(roadCount, set)) {
            return -1;
        }
        return oddEnds(set) == wanted ? 1 : 0;
    }

    public int possible() {
        return bestJoin(wanted, 0, 0) == NO_SET ? 0 : 1;
    }

    public int joins() {
        int all = allRoads();
        int found = 0;
        for (int set = 0; set <= all; set++) {
            if (oddEnds(set) == wanted) {
                found++;
            }
        }
        return found;
    }

    public int best() {
        return bestWeight(wanted, 0, 0);
    }

    public int bestSet() {
        return bestJoin(wanted, 0, 0);
    }

    public int bestWith(int road) {
        if (!isRoad(road)) {
            return NOT_GOOD;
        }
        return bestWeight(wanted, 1 << road, 0);
    }

    public int bestWithout(int road) {
        if (!isRoad(road)) {
            return NOT_GOOD;
        }
        return bestWeight(wanted, 0, 1 << road);
    }

    public int between(int p, int q) {
        if (!isPlace(p) || !isPlace(q)) {
            return NOT_GOOD;
        }
        return bestWeight((1 << p) ^ (1 << q), 0, 0);
    }

    public int postman() {
        if (hasNegativeWeight()) {
            return -1;
        }
        if (!allJoined()) {
            return -2;
        }
        // A closed round needs an even number of ends at every place, so the roads taken a
        // second time must have odd ends just where all roads have them. All roads together are
        // such a set, so there always is one; without roads it is the empty set, of weight 0.
        int oddNow = oddPlaces();
        return bestWeight(oddNow, 0, 0);
    }

    public int oddPlaces() {
        int all = allRoads();
        return oddEnds(all);
    }

    private boolean isPlace(int p) {
        return p >= 0 && p < placeCount;
    }

    private boolean isRoad(int e) {
        return e >= 0 && e < roadCount;
    }

    private static boolean isWeight(int weight) {
        return weight >= LEAST_WEIGHT && weight <= MOST_WEIGHT;
    }

    private static boolean isSetOf(int members, int set) {
        return set >= 0 && set < (1 << members);
    }

    private int allRoads() {
        return (1 << roadCount) - 1;
    }

    private int oddEnds(int set) {
        int places = 0;
        for (int e = 0; e < roadCount; e++) {
            if ((set >> e & 1) == 1) {
                places ^= odd[e];
            }
        }
        return places;
    }

    private int weightOf(int set) {
        int sum = 0;
        for (int e = 0; e < roadCount; e++) {
            if ((set >> e & 1) == 1) {
                sum += weights[e];
            }
        }
        return sum;
    }

    /** The best set with odd ends at just these places that has all roads of with and none of without. */
    private int bestJoin(int places, int with, int without) {
        int all = allRoads();
        int bestYet = NO_SET;
        int leastYet = 0;
        for (int set = 0; set <= all; set++) {
            boolean allowed = (set & with) == with && (set & without) == 0;
            if (!allowed || oddEnds(set) != places) {
                continue;
            }
            int weight = weightOf(set);
            // Sets come in the order of their numbers: the first of the same weight stays.
            if (bestYet == NO_SET || weight < leastYet) {
                bestYet = set;
                leastYet = weight;
            }
        }
        return bestYet;
    }

    private int bestWeight(int places, int with, int without) {
        int set = bestJoin(places, with, without);
        return set == NO_SET ? NO_JOIN : weightOf(set);
    }

    private boolean hasNegativeWeight() {
        for (int e = 0; e < roadCount; e++) {
            if (weights[e] < 0) {
                return true;
            }
        }
        return false;
    }

    private boolean allJoined() {
        int reached = reachedFromFirstRoad();
        for (int e = 0; e < roadCount; e++) {
            if ((touched[e] & reached) == 0) {
                return false;
            }
        }
        return true;
    }

    private int reachedFromFirstRoad() {
        int reached = touched[0];
        // Each round that is not the last reaches a new place, so as many rounds as places suffice.
        for (int round = 0; round < placeCount; round++) {
            for (int e = 0; e < roadCount; e++) {
                if ((touched[e] & reached) != 0) {
                    reached |= touched[e];
                }
            }
        }
        return reached;
    }
}
