import java.util.ArrayList;
import java.util.List;
import java.util.function.Consumer;
import java.util.function.ToIntFunction;

/**
 * Each sentence of the document that names a boundary case, with a test of its own that is named by the
 * sentence's words: too small, too large, empty, full, a number that wraps around, a refused call.
 */
public final class BoundaryTest {
    private static final int LOW = Integer.MIN_VALUE;
    private static final int HIGH = Integer.MAX_VALUE;
    /** Numbers that are no place and no road of any object; shifts and sums of some wrap around to good ones. */
    private static final int[] FAR = {LOW, LOW + 1, LOW + 3, -64, -32, -31, -2, -1, 12, 13, 32, 33, 64, HIGH - 1, HIGH};
    private static final int[] WEIGHTS_TOO_SMALL = {-10, -11, -128, -257, LOW, LOW + 9, LOW + 10};
    private static final int[] WEIGHTS_TOO_LARGE = {21, 22, 127, 256, 65536, HIGH - 9, HIGH};

    private static String sentence = "";
    private static int wrongHere = 0;
    private static int wrongTests = 0;
    private static int tests = 0;

    private static void due(String what, int got, int want) {
        if (got != want) {
            wrongHere++;
            System.out.println("[" + sentence + "] " + what + " answered " + got + ", due is " + want);
        }
    }

    private static void test(String words, Runnable body) {
        sentence = words;
        wrongHere = 0;
        tests++;
        try {
            body.run();
        } catch (RuntimeException thrown) {
            wrongHere++;
            System.out.println("[" + sentence + "] threw " + thrown);
        }
        if (wrongHere != 0) {
            wrongTests++;
        }
    }

    public static void main(String[] args) {
        terms();
        changes();
        questions();
        System.out.println(wrongTests == 0 ? tests + " sentences hold" : wrongTests + " sentences do not hold");
        if (wrongTests != 0) {
            System.exit(1);
        }
    }

    private static void terms() {
        test("What it is: used for at most 512 calls", BoundaryTest::allOf512Calls);
        test("Terms: at most 12 roads, numbered 0, 1, 2, .. in their order", BoundaryTest::twelveRoadsInOrder);
        test("Terms: a road joins two places, perhaps the same", BoundaryTest::samePlaceTwice);
        test("Terms: there may be several between the same two", BoundaryTest::severalBetweenTheSame);
        test("Terms: a set of places is the sum of 2^p", BoundaryTest::setsOfPlaces);
        test("Terms: a set of roads is the sum of 2^e", BoundaryTest::setsOfRoads);
        test("Terms: the weight of a set is the sum of their weights", BoundaryTest::weightsAddUp);
        test("Terms: wanted places, empty at first", BoundaryTest::nothingWantedAtFirst);
        test("Terms: odd exactly if it is wanted", BoundaryTest::oddExactlyIfWanted);
        test("Terms: a road from a place to itself counts twice", BoundaryTest::loopCountsTwice);
        test("Terms: better is the one of lesser weight", BoundaryTest::lesserWeightIsBetter);
        test("Terms: with the same weight, the lesser number", BoundaryTest::lesserNumberIsBetter);
        test("Terms: no question changes anything", BoundaryTest::questionsChangeNothing);
        test("Terms: a refused question changes nothing", BoundaryTest::refusedQuestionsChangeNothing);
        test("Terms: a place is good if it is 0 .. n-1", BoundaryTest::goodPlaces);
        test("Terms: a road is good if there is such a road", BoundaryTest::goodRoads);
    }

    private static void changes() {
        test("1: places below 2 becomes 2", BoundaryTest::tooFewPlaces);
        test("1: places above 7 becomes 7", BoundaryTest::tooManyPlaces);
        test("1: places is n", BoundaryTest::placesAsAsked);
        test("1: no roads at first", BoundaryTest::noRoadsAtFirst);
        test("2: puts a road at the end", BoundaryTest::roadAtTheEnd);
        test("2: -1 if p is not good", BoundaryTest::roadFromBadPlace);
        test("2: -1 if q is not good", BoundaryTest::roadToBadPlace);
        test("2: -2 if weight is below -9", BoundaryTest::roadTooLight);
        test("2: -2 if weight is above 20", BoundaryTest::roadTooHeavy);
        test("2: weights -9 and 20 are in -9 .. 20", BoundaryTest::roadOfOutmostWeights);
        test("2: -3 if there are 12 roads", BoundaryTest::roadWhenFull);
        test("2: the tests in the order named", BoundaryTest::roadOrder);
        test("2: a refused road changes nothing", BoundaryTest::refusedRoad);
        test("3: later ones get numbers less by one", BoundaryTest::laterRoadsMove);
        test("3: -1 if road is not good", BoundaryTest::removeBadRoad);
        test("3: answers how many are left", BoundaryTest::removeTellsHowManyAreLeft);
        test("3: a refused remove changes nothing", BoundaryTest::refusedRemove);
        test("4: changes a weight, answers the one before", BoundaryTest::weighAnswersTheOneBefore);
        test("4: -1 if road is not good", BoundaryTest::weighBadRoad);
        test("4: -2 if weight is below -9", BoundaryTest::weighTooLight);
        test("4: -2 if weight is above 20", BoundaryTest::weighTooHeavy);
        test("4: the tests in the order named", BoundaryTest::weighOrder);
        test("4: a refused weigh changes nothing", BoundaryTest::refusedWeigh);
        test("5: sets the wanted places, answers the set before", BoundaryTest::wantAnswersTheSetBefore);
        test("5: -1 if set is below 0", BoundaryTest::wantBelowNothing);
        test("5: -1 if set is above 2^n - 1", BoundaryTest::wantTooMuch);
        test("5: a refused want changes nothing", BoundaryTest::refusedWant);
        test("6: wanted becomes not wanted, and back", BoundaryTest::turnThereAndBack);
        test("6: -1 if p is not good", BoundaryTest::turnBadPlace);
        test("6: a refused turn changes nothing", BoundaryTest::refusedTurn);
    }

    private static void questions() {
        test("7: how many roads there are", BoundaryTest::roadsFromNoneToFull);
        test("8: 1 if a join, otherwise 0", BoundaryTest::isJoinOfEmptyAndFullSets);
        test("8: -1 if set is below 0", BoundaryTest::isJoinBelowNothing);
        test("8: -1 if set is above 2^m - 1", BoundaryTest::isJoinOfMissingRoads);
        test("9: 1 if there is a join, otherwise 0", BoundaryTest::possibleOrNot);
        test("10: how many joins there are", BoundaryTest::joinsFromNoneToAll);
        test("11: the weight of the best join", BoundaryTest::bestAtTheEdges);
        test("11: -1000 if there is none", BoundaryTest::bestOfNone);
        test("12: the best join", BoundaryTest::bestSetAtTheEdges);
        test("12: -1 if there is none", BoundaryTest::bestSetOfNone);
        test("13: the best join that has the road", BoundaryTest::bestWithAtTheEdges);
        test("13: -2000 if road is not good", BoundaryTest::bestWithBadRoad);
        test("13: -1000 if there is none", BoundaryTest::bestWithOfNone);
        test("13: the tests in the order named", BoundaryTest::bestWithOrder);
        test("14: the best join that has not the road", BoundaryTest::bestWithoutAtTheEdges);
        test("14: -2000 if road is not good", BoundaryTest::bestWithoutBadRoad);
        test("14: -1000 if there is none", BoundaryTest::bestWithoutOfNone);
        test("14: the tests in the order named", BoundaryTest::bestWithoutOrder);
        test("15: if just p and q were wanted", BoundaryTest::betweenHeedsNothingWanted);
        test("15: none, if they are the same", BoundaryTest::betweenTheSame);
        test("15: -2000 if p is not good", BoundaryTest::betweenFromBadPlace);
        test("15: -2000 if q is not good", BoundaryTest::betweenToBadPlace);
        test("15: -1000 if there is none", BoundaryTest::betweenOfNone);
        test("15: the tests in the order named", BoundaryTest::betweenOrder);
        test("16: the least weight of a set taken a second time", BoundaryTest::postmanAtTheEdges);
        test("16: -1 if some road has a weight less than 0", BoundaryTest::postmanBelowNothing);
        test("16: -2 if the roads are not all joined", BoundaryTest::postmanOfParts);
        test("16: from some road to some other: not places", BoundaryTest::postmanHeedsNoLonePlaces);
        test("16: along roads, in any order of their numbers", BoundaryTest::postmanInAnyOrder);
        test("16: 0 if there are no roads", BoundaryTest::postmanOfNone);
        test("16: the tests in the order named", BoundaryTest::postmanOrder);
        test("17: ends of an odd number of all roads", BoundaryTest::oddPlacesFromNoneToFull);
    }

    // ---- objects to ask

    /** An object as it is made: its places, its roads {p, q, weight}, what is wanted, and what postman answers. */
    private record Start(int n, int[][] roads, int wanted, int postman) {
        TJoins make() {
            TJoins x = new TJoins(n);
            for (int[] road : roads) {
                x.road(road[0], road[1], road[2]);
            }
            x.want(wanted);
            return x;
        }

        int oddOfFirst(int count) {
            int odd = 0;
            for (int e = 0; e < count; e++) {
                odd ^= (1 << roads[e][0]) ^ (1 << roads[e][1]);
            }
            return odd;
        }
    }

    /** A triangle 0-1-2 and a road 2-3, places 0 and 2 wanted. */
    private static final Start SMALL = new Start(4, new int[][] {{0, 1, 1}, {1, 2, 2}, {2, 0, 4}, {2, 3, 3}}, 5, 3);
    /** A ring of seven places, five of its roads twice, the weights 0 .. 11, places 1 and 6 wanted. */
    private static final Start FULL = new Start(7, new int[][] {
        {0, 1, 0}, {1, 2, 1}, {2, 3, 2}, {3, 4, 3}, {4, 5, 4}, {5, 6, 5},
        {6, 0, 6}, {0, 1, 7}, {1, 2, 8}, {2, 3, 9}, {3, 4, 10}, {4, 5, 11}}, 66, 10);
    private static final Start EMPTY = new Start(3, new int[][] {}, 5, 0);
    private static final Start APART = new Start(7, new int[][] {{0, 1, 2}, {5, 6, 3}}, 3, -2);
    private static final Start BELOW = new Start(7, new int[][] {{0, 1, -1}, {1, 2, 3}}, 3, -1);

    private static TJoins small() {
        return SMALL.make();
    }

    private static TJoins full() {
        return FULL.make();
    }

    private static TJoins empty() {
        return EMPTY.make();
    }

    /** 12 roads of one weight, each from place 0 to itself. */
    private static TJoins loops(int weight) {
        TJoins x = new TJoins(2);
        for (int e = 0; e < 12; e++) {
            x.road(0, 0, weight);
        }
        return x;
    }

    /** Seven places with one road. */
    private static TJoins oneRoad(int p, int q, int weight) {
        TJoins x = new TJoins(7);
        x.road(p, q, weight);
        return x;
    }

    private static int[] join(int[]... parts) {
        List<Integer> all = new ArrayList<>();
        for (int[] part : parts) {
            for (int number : part) {
                all.add(number);
            }
        }
        return all.stream().mapToInt(Integer::intValue).toArray();
    }

    private static int[] badPlaces(int n) {
        return join(FAR, new int[] {n, n + 1, 7, 8});
    }

    private static int[] badRoads(int m) {
        return join(FAR, new int[] {m, m + 1});
    }

    /** What changes tell of the state is read first, before a question could spoil it or set it right. */
    private static void isAsMade(String what, TJoins x, Start start) {
        int m = start.roads.length;
        due(what + ": then the wanted places", x.want(start.wanted), start.wanted);
        for (int e = 0; e < m; e++) {
            due(what + ": then the weight of road " + e, x.weigh(e, start.roads[e][2]), start.roads[e][2]);
        }
        due(what + ": then a road more", x.weigh(m, 0), -1);
        due(what + ": then roads", x.roads(), m);
        due(what + ": then postman", x.postman(), start.postman);
        due(what + ": then turn of the place above", x.turn(start.n), -1);
        for (int e = m - 1; e >= 0; e--) {
            due(what + ": then oddPlaces of " + (e + 1), x.oddPlaces(), start.oddOfFirst(e + 1));
            due(what + ": then remove(" + e + ")", x.remove(e), e);
        }
        due(what + ": then oddPlaces of none", x.oddPlaces(), 0);
        due(what + ": then turn of the last place", x.turn(start.n - 1), start.wanted ^ (1 << start.n - 1));
    }

    private static void changesNothing(String what, Consumer<TJoins> call) {
        for (Start start : List.of(SMALL, FULL, EMPTY, APART, BELOW)) {
            TJoins x = start.make();
            call.accept(x);
            isAsMade(what + " with " + start.roads.length + " roads", x, start);
        }
    }

    private static void refused(String what, int answer, ToIntFunction<TJoins> call, Start start) {
        TJoins x = start.make();
        due(what, call.applyAsInt(x), answer);
        isAsMade(what, x, start);
    }

    // ---- What it is, Terms

    private static void allOf512Calls() {
        TJoins turned = new TJoins(2);
        for (int call = 1; call <= 512; call++) {
            due("turn(1), call " + call, turned.turn(1), call % 2 == 1 ? 2 : 0);
        }
        TJoins built = new TJoins(7);
        for (int call = 1; call <= 510; call += 2) {
            due("road, call " + call, built.road(0, 6, 20), 0);
            due("remove, call " + (call + 1), built.remove(0), 0);
        }
        due("road, call 511", built.road(5, 6, 3), 0);
        due("between, call 512", built.between(6, 5), 3);
        TJoins refused = loops(1);
        for (int call = 13; call <= 511; call++) {
            due("road, call " + call, refused.road(0, 1, 1), -3);
        }
        due("joins, call 512", refused.joins(), 4096);
    }

    private static void twelveRoadsInOrder() {
        TJoins x = new TJoins(2);
        for (int e = 0; e < 12; e++) {
            due("road number " + e, x.road(0, 1, e), e);
        }
        due("roads", x.roads(), 12);
        for (int e = 0; e < 12; e++) {
            due("the weight of road " + e, x.weigh(e, 0), e);
        }
    }

    private static void samePlaceTwice() {
        TJoins x = new TJoins(2);
        due("first place to itself", x.road(0, 0, 1), 0);
        due("last place to itself", x.road(1, 1, 1), 1);
        due("roads", x.roads(), 2);
    }

    private static void severalBetweenTheSame() {
        TJoins x = new TJoins(2);
        due("one", x.road(0, 1, 3), 0);
        due("the same again", x.road(0, 1, 3), 1);
        due("the same from the other end", x.road(1, 0, 3), 2);
        due("roads", x.roads(), 3);
        x.want(3);
        due("each alone and all three are joins", x.joins(), 4);
    }

    private static void setsOfPlaces() {
        for (int p = 0; p < 7; p++) {
            TJoins x = new TJoins(7);
            due("turn(" + p + ")", x.turn(p), 1 << p);
            due("want answers it", x.want(127), 1 << p);
            due("turn(" + p + ") from all", x.turn(p), 127 - (1 << p));
            x.road(p, (p + 1) % 7, 0);
            due("oddPlaces", x.oddPlaces(), (1 << p) + (1 << (p + 1) % 7));
        }
    }

    private static void setsOfRoads() {
        for (int e = 0; e < 12; e++) {
            TJoins x = new TJoins(2);
            for (int any = 0; any < 12; any++) {
                x.road(0, any == e ? 1 : 0, 0);
            }
            x.want(3);
            due("only road " + e + " joins", x.bestSet(), 1 << e);
            due("isJoin of road " + e, x.isJoin(1 << e), 1);
            due("isJoin of all but road " + e, x.isJoin(4095 - (1 << e)), 0);
        }
    }

    private static void weightsAddUp() {
        due("12 times -9", loops(-9).best(), -108);
        due("the empty set", loops(20).best(), 0);
        TJoins line = new TJoins(7);
        for (int p = 0; p < 6; p++) {
            line.road(p, p + 1, 20);
        }
        due("6 times 20", line.between(0, 6), 120);
        line.weigh(0, -9);
        due("-9 and 5 times 20", line.between(6, 0), 91);
    }

    private static void nothingWantedAtFirst() {
        for (int n = 2; n <= 7; n++) {
            due("want(0) of " + n + " places", new TJoins(n).want(0), 0);
            due("isJoin(0) of " + n + " places", new TJoins(n).isJoin(0), 1);
            due("turn(0) of " + n + " places", new TJoins(n).turn(0), 1);
        }
    }

    private static void oddExactlyIfWanted() {
        TJoins x = new TJoins(4);
        x.road(0, 1, 1);
        x.road(0, 2, 1);
        x.road(0, 3, 1);
        due("odd places that are not wanted", x.isJoin(1), 0);
        x.want(3);
        due("just the wanted ones", x.isJoin(1), 1);
        due("wanted places that are not odd", x.isJoin(0), 0);
        due("a wanted one is missed, another is odd", x.isJoin(2), 0);
        x.want(15);
        due("three ends are odd", x.isJoin(7), 1);
        due("two ends are not", x.isJoin(6), 0);
        x.want(14);
        due("three ends at a place that is not wanted", x.isJoin(7), 0);
    }

    private static void loopCountsTwice() {
        TJoins x = new TJoins(2);
        x.road(0, 0, 1);
        due("nothing wanted", x.isJoin(1), 1);
        due("oddPlaces", x.oddPlaces(), 0);
        x.want(1);
        due("its place wanted", x.isJoin(1), 0);
        due("its place wanted", x.possible(), 0);
        x.want(3);
        x.road(0, 1, 1);
        due("beside a road", x.isJoin(3), 1);
    }

    private static void lesserWeightIsBetter() {
        TJoins x = new TJoins(2);
        x.road(0, 1, 1);
        x.road(0, 1, 0);
        x.want(3);
        due("0 before 1, though its number is greater", x.bestSet(), 2);
        x.weigh(0, -8);
        x.weigh(1, -9);
        due("-9 before -8", x.bestSet(), 2);
        x.weigh(0, 20);
        x.weigh(1, 19);
        due("19 before 20", x.bestSet(), 2);
        x.weigh(0, 0);
        x.weigh(1, -1);
        due("-1 before 0", x.bestSet(), 2);
    }

    private static void lesserNumberIsBetter() {
        for (int weight = -9; weight <= 20; weight++) {
            TJoins x = new TJoins(2);
            x.road(0, 1, weight);
            x.road(0, 1, weight);
            x.want(3);
            due("two roads of weight " + weight, x.bestSet(), 1);
        }
        due("12 roads of weight 0: the empty set", loops(0).bestSet(), 0);
        TJoins many = new TJoins(3);
        many.road(1, 2, 1);
        many.road(0, 1, 2);
        many.road(0, 2, 3);
        many.want(5);
        due("two roads of lesser numbers before one", many.bestSet(), 3);
        TJoins one = new TJoins(3);
        one.road(0, 2, 3);
        one.road(1, 2, 1);
        one.road(0, 1, 2);
        one.want(5);
        due("one road of lesser number before two", one.bestSet(), 1);
    }

    private static void questionsChangeNothing() {
        changesNothing("roads()", TJoins::roads);
        changesNothing("isJoin(0)", x -> x.isJoin(0));
        changesNothing("isJoin(3)", x -> x.isJoin(3));
        changesNothing("isJoin(4095)", x -> x.isJoin(4095));
        changesNothing("possible()", TJoins::possible);
        changesNothing("joins()", TJoins::joins);
        changesNothing("best()", TJoins::best);
        changesNothing("bestSet()", TJoins::bestSet);
        changesNothing("bestWith(0)", x -> x.bestWith(0));
        changesNothing("bestWith(1)", x -> x.bestWith(1));
        changesNothing("bestWith(11)", x -> x.bestWith(11));
        changesNothing("bestWithout(0)", x -> x.bestWithout(0));
        changesNothing("bestWithout(1)", x -> x.bestWithout(1));
        changesNothing("bestWithout(11)", x -> x.bestWithout(11));
        changesNothing("between(0, 1)", x -> x.between(0, 1));
        changesNothing("between(1, 1)", x -> x.between(1, 1));
        changesNothing("postman()", TJoins::postman);
        changesNothing("oddPlaces()", TJoins::oddPlaces);
    }

    private static void refusedQuestionsChangeNothing() {
        for (int far : FAR) {
            changesNothing("bestWith(" + far + ")", x -> x.bestWith(far));
            changesNothing("bestWithout(" + far + ")", x -> x.bestWithout(far));
            changesNothing("between(" + far + ", 1)", x -> x.between(far, 1));
            changesNothing("between(1, " + far + ")", x -> x.between(1, far));
        }
        changesNothing("isJoin(-1)", x -> x.isJoin(-1));
        changesNothing("isJoin(4096)", x -> x.isJoin(4096));
        refused("postman(), a weight below 0", -1, TJoins::postman, BELOW);
        refused("postman(), roads apart", -2, TJoins::postman, APART);
    }

    private static void goodPlaces() {
        for (int n = 2; n <= 7; n++) {
            for (int p = 0; p < n; p++) {
                TJoins x = new TJoins(n);
                due("road from " + p + " of " + n, x.road(p, 0, 1), 0);
                due("road to " + p + " of " + n, x.road(0, p, 1), 1);
                due("turn(" + p + ") of " + n, x.turn(p), 1 << p);
                due("between(" + p + ", 0) of " + n, x.between(p, 0), p == 0 ? 0 : 1);
                due("between(0, " + p + ") of " + n, x.between(0, p), p == 0 ? 0 : 1);
            }
            for (int p : badPlaces(n)) {
                if (p >= 0 && p < n) {
                    continue;
                }
                TJoins x = new TJoins(n);
                due("road from " + p + " of " + n, x.road(p, 0, 1), -1);
                due("road to " + p + " of " + n, x.road(0, p, 1), -1);
                due("turn(" + p + ") of " + n, x.turn(p), -1);
                due("between(" + p + ", 0) of " + n, x.between(p, 0), -2000);
                due("between(0, " + p + ") of " + n, x.between(0, p), -2000);
            }
        }
    }

    private static void goodRoads() {
        TJoins x = new TJoins(2);
        for (int m = 0; m <= 12; m++) {
            for (int e = 0; e <= 12; e++) {
                boolean good = e < m;
                due("weigh(" + e + ") of " + m, x.weigh(e, 5), good ? 5 : -1);
                due("bestWith(" + e + ") of " + m, x.bestWith(e), good ? 5 : -2000);
            }
            due("bestWithout of the last of " + m, x.bestWithout(m - 1), m > 0 ? 0 : -2000);
            due("bestWithout of the next of " + m, x.bestWithout(m), -2000);
            due("remove of the next of " + m, x.remove(m), -1);
            due("the next of " + m, x.road(1, 1, 5), m < 12 ? m : -3);
        }
        for (int m = 11; m >= 0; m--) {
            due("remove of the last", x.remove(m), m);
            due("remove of the one that is gone", x.remove(m), -1);
            due("weigh of the one that is gone", x.weigh(m, 5), -1);
            due("bestWith of the one that is gone", x.bestWith(m), -2000);
            due("bestWithout of the one that is gone", x.bestWithout(m), -2000);
        }
    }

    // ---- Promise 1

    private static void hasPlaces(int asked, int n) {
        TJoins x = new TJoins(asked);
        String name = "TJoins(" + asked + "): ";
        due(name + "the last place", x.turn(n - 1), 1 << (n - 1));
        due(name + "the one above", x.turn(n), -1);
        due(name + "all wanted", x.want((1 << n) - 1), 1 << (n - 1));
        due(name + "more than all wanted", x.want(1 << n), -1);
        due(name + "a road to the last place", x.road(0, n - 1, 0), 0);
        due(name + "a road to the one above", x.road(0, n, 0), -1);
        due(name + "between the outmost", x.between(n - 1, 0), 0);
        due(name + "between the last and the one above", x.between(n - 1, n), -2000);
    }

    private static void tooFewPlaces() {
        for (int asked : new int[] {1, 0, -1, -2, -3, -7, -32, LOW + 2, LOW + 1, LOW}) {
            hasPlaces(asked, 2);
        }
    }

    private static void tooManyPlaces() {
        for (int asked : new int[] {8, 9, 10, 12, 13, 31, 32, 34, 64, 258, HIGH - 1, HIGH}) {
            hasPlaces(asked, 7);
        }
    }

    private static void placesAsAsked() {
        for (int asked = 2; asked <= 7; asked++) {
            hasPlaces(asked, asked);
        }
    }

    private static void noRoadsAtFirst() {
        for (int asked : new int[] {LOW, 1, 2, 4, 7, 8, HIGH}) {
            TJoins x = new TJoins(asked);
            due("roads", x.roads(), 0);
            due("joins", x.joins(), 1);
            due("remove(0)", x.remove(0), -1);
            due("oddPlaces", x.oddPlaces(), 0);
            due("isJoin(1)", x.isJoin(1), -1);
        }
    }

    // ---- Promise 2

    private static void roadAtTheEnd() {
        TJoins x = small();
        due("its number", x.road(3, 0, 7), 4);
        for (int e = 0; e < 4; e++) {
            due("the others stay", x.weigh(e, 0), new int[] {1, 2, 4, 3}[e]);
        }
        due("it is the last", x.weigh(4, 0), 7);
        TJoins again = small();
        again.remove(0);
        due("its number after one is out", again.road(0, 1, 9), 3);
        due("it is the last", again.weigh(3, 0), 9);
    }

    private static void roadFromBadPlace() {
        for (int p : badPlaces(4)) {
            due("road(" + p + ", 0, 1)", small().road(p, 0, 1), -1);
            due("road(" + p + ", 3, 1)", small().road(p, 3, 1), -1);
        }
        due("road(1, 3, 1)", small().road(1, 3, 1), 4);
    }

    private static void roadToBadPlace() {
        for (int q : badPlaces(4)) {
            due("road(0, " + q + ", 1)", small().road(0, q, 1), -1);
            due("road(3, " + q + ", 1)", small().road(3, q, 1), -1);
            due("road(" + q + ", " + q + ", 1)", small().road(q, q, 1), -1);
        }
        due("road(3, 1, 1)", small().road(3, 1, 1), 4);
    }

    private static void roadTooLight() {
        for (int weight : WEIGHTS_TOO_SMALL) {
            due("road(0, 1, " + weight + ")", small().road(0, 1, weight), -2);
        }
    }

    private static void roadTooHeavy() {
        for (int weight : WEIGHTS_TOO_LARGE) {
            due("road(0, 1, " + weight + ")", small().road(0, 1, weight), -2);
        }
    }

    private static void roadOfOutmostWeights() {
        TJoins x = new TJoins(2);
        due("road(0, 1, -9)", x.road(0, 1, -9), 0);
        due("road(0, 1, 20)", x.road(0, 1, 20), 1);
        due("-9 is kept", x.weigh(0, 20), -9);
        due("20 is kept", x.weigh(1, -9), 20);
        due("20 is set", x.weigh(0, 0), 20);
        due("-9 is set", x.weigh(1, 0), -9);
    }

    private static void roadWhenFull() {
        TJoins x = full();
        due("the 13th", x.road(0, 1, 1), -3);
        due("the 13th again", x.road(6, 6, -9), -3);
        due("one out", x.remove(0), 11);
        due("the 12th", x.road(0, 1, 1), 11);
        due("the 13th once more", x.road(0, 1, 1), -3);
    }

    private static void roadOrder() {
        due("place and weight wrong", small().road(4, 0, 21), -1);
        due("place and weight wrong", small().road(0, -1, -10), -1);
        due("place wrong, full", full().road(7, 0, 1), -1);
        due("place wrong, full", full().road(0, 7, 1), -1);
        due("weight wrong, full", full().road(0, 1, 21), -2);
        due("weight wrong, full", full().road(0, 1, -10), -2);
        due("all wrong", full().road(-1, 7, 21), -1);
    }

    private static void refusedRoad() {
        for (int far : FAR) {
            refused("road(" + far + ", 1, 2)", -1, x -> x.road(far, 1, 2), SMALL);
            refused("road(1, " + far + ", 2)", -1, x -> x.road(1, far, 2), SMALL);
            refused("road(1, " + far + ", 2), no roads", -1, x -> x.road(1, far, 2), EMPTY);
        }
        for (int weight : join(WEIGHTS_TOO_SMALL, WEIGHTS_TOO_LARGE)) {
            refused("road(0, 1, " + weight + ")", -2, x -> x.road(0, 1, weight), SMALL);
            refused("road(0, 1, " + weight + "), no roads", -2, x -> x.road(0, 1, weight), EMPTY);
        }
        refused("a 13th road", -3, x -> x.road(0, 3, -9), FULL);
        TJoins before = full();
        before.road(0, 3, -9);
        due("one out after the 13th", before.remove(11), 11);
        due("the 13th did not come after", before.weigh(11, 0), -1);
    }

    // ---- Promise 3

    private static void laterRoadsMove() {
        for (int out = 0; out < 12; out++) {
            TJoins x = full();
            due("remove(" + out + ") of 12", x.remove(out), 11);
            for (int e = 0; e < 11; e++) {
                due("the weight of " + e + " after remove(" + out + ")", x.weigh(e, 0), e < out ? e : e + 1);
            }
            for (int e = 10; e >= 0; e--) {
                int was = e < out ? e : e + 1;
                int odd = x.oddPlaces();
                x.remove(e);
                due("the ends of " + e + " after remove(" + out + ")", odd ^ x.oddPlaces(),
                    (1 << was % 7) + (1 << (was + 1) % 7));
            }
        }
    }

    private static void removeBadRoad() {
        for (int e : badRoads(4)) {
            due("remove(" + e + ") of 4", small().remove(e), -1);
        }
        for (int e : badRoads(12)) {
            due("remove(" + e + ") of 12", full().remove(e), -1);
        }
        for (int e : badRoads(0)) {
            due("remove(" + e + ") of none", empty().remove(e), -1);
        }
    }

    private static void removeTellsHowManyAreLeft() {
        TJoins first = full();
        TJoins last = full();
        for (int left = 11; left >= 0; left--) {
            due("remove of the first", first.remove(0), left);
            due("remove of the last", last.remove(left), left);
        }
        due("remove of none", first.remove(0), -1);
        due("roads after all are out", last.roads(), 0);
    }

    private static void refusedRemove() {
        for (int e : badRoads(4)) {
            refused("remove(" + e + ") of 4", -1, x -> x.remove(e), SMALL);
        }
        for (int e : badRoads(12)) {
            refused("remove(" + e + ") of 12", -1, x -> x.remove(e), FULL);
        }
        for (int e : badRoads(0)) {
            refused("remove(" + e + ") of none", -1, x -> x.remove(e), EMPTY);
        }
    }

    // ---- Promise 4

    private static void weighAnswersTheOneBefore() {
        TJoins x = new TJoins(2);
        x.road(0, 1, -9);
        for (int weight = -8; weight <= 20; weight++) {
            due("weigh(0, " + weight + ")", x.weigh(0, weight), weight - 1);
        }
        due("the same again", x.weigh(0, 20), 20);
        due("from the most to the least", x.weigh(0, -9), 20);
        due("the least", x.weigh(0, 0), -9);
        TJoins full = full();
        due("the last of 12", full.weigh(11, -9), 11);
        due("the one before the last stays", full.weigh(10, 10), 10);
        due("the first stays", full.weigh(0, 0), 0);
    }

    private static void weighBadRoad() {
        for (int e : badRoads(4)) {
            due("weigh(" + e + ", 1) of 4", small().weigh(e, 1), -1);
        }
        for (int e : badRoads(12)) {
            due("weigh(" + e + ", 1) of 12", full().weigh(e, 1), -1);
        }
        for (int e : badRoads(0)) {
            due("weigh(" + e + ", 1) of none", empty().weigh(e, 1), -1);
        }
    }

    private static void weighTooLight() {
        for (int weight : WEIGHTS_TOO_SMALL) {
            due("weigh(3, " + weight + ")", small().weigh(3, weight), -2);
        }
        due("weigh(3, -9)", small().weigh(3, -9), 3);
    }

    private static void weighTooHeavy() {
        for (int weight : WEIGHTS_TOO_LARGE) {
            due("weigh(3, " + weight + ")", small().weigh(3, weight), -2);
        }
        due("weigh(3, 20)", small().weigh(3, 20), 3);
    }

    private static void weighOrder() {
        due("both wrong", small().weigh(4, 21), -1);
        due("both wrong", small().weigh(-1, -10), -1);
        due("both wrong", empty().weigh(0, HIGH), -1);
        due("weight wrong", small().weigh(3, 21), -2);
    }

    private static void refusedWeigh() {
        for (int e : badRoads(4)) {
            refused("weigh(" + e + ", 1)", -1, x -> x.weigh(e, 1), SMALL);
        }
        for (int e : badRoads(12)) {
            refused("weigh(" + e + ", 1) of 12", -1, x -> x.weigh(e, 1), FULL);
        }
        for (int weight : join(WEIGHTS_TOO_SMALL, WEIGHTS_TOO_LARGE)) {
            refused("weigh(0, " + weight + ")", -2, x -> x.weigh(0, weight), SMALL);
        }
        TJoins later = new TJoins(2);
        later.weigh(0, 20);
        later.road(0, 1, 3);
        due("a weight for a road that comes later", later.weigh(0, 0), 3);
    }

    // ---- Promise 5

    private static void wantAnswersTheSetBefore() {
        for (int n = 2; n <= 7; n++) {
            TJoins x = new TJoins(n);
            for (int set = 0; set < 1 << n; set++) {
                due("want(" + set + ") of " + n, x.want(set), set == 0 ? 0 : set - 1);
            }
            due("from all to none", x.want(0), (1 << n) - 1);
            due("from none to none", x.want(0), 0);
        }
    }

    private static void wantBelowNothing() {
        for (int set : new int[] {-1, -2, -8, -127, -128, LOW + 1, LOW}) {
            due("want(" + set + ")", small().want(set), -1);
        }
    }

    private static void wantTooMuch() {
        for (int n = 2; n <= 7; n++) {
            for (int set : new int[] {1 << n, (1 << n) + 1, 128, 256, 1 << 16, 1 << 30, HIGH}) {
                due("want(" + set + ") of " + n, new TJoins(n).want(set), -1);
            }
            due("want of all of " + n, new TJoins(n).want((1 << n) - 1), 0);
        }
    }

    private static void refusedWant() {
        for (int set : new int[] {-1, -2, LOW, LOW + 1, 16, 17, 128, HIGH}) {
            refused("want(" + set + ")", -1, x -> x.want(set), SMALL);
        }
        for (int set : new int[] {-1, LOW, 128, 129, HIGH}) {
            refused("want(" + set + ") of 7", -1, x -> x.want(set), FULL);
        }
    }

    // ---- Promise 6

    private static void turnThereAndBack() {
        for (int n = 2; n <= 7; n++) {
            TJoins x = new TJoins(n);
            for (int p = 0; p < n; p++) {
                due("turn(" + p + ") there", x.turn(p), (1 << p + 1) - 1);
            }
            for (int p = n - 1; p >= 0; p--) {
                due("turn(" + p + ") back", x.turn(p), (1 << p) - 1);
            }
            due("none is left", x.want(0), 0);
        }
    }

    private static void turnBadPlace() {
        for (int p : badPlaces(4)) {
            due("turn(" + p + ") of 4", small().turn(p), -1);
        }
        for (int p : badPlaces(7)) {
            due("turn(" + p + ") of 7", full().turn(p), -1);
        }
    }

    private static void refusedTurn() {
        for (int p : badPlaces(4)) {
            refused("turn(" + p + ") of 4", -1, x -> x.turn(p), SMALL);
        }
        for (int p : badPlaces(7)) {
            refused("turn(" + p + ") of 7", -1, x -> x.turn(p), FULL);
        }
    }

    // ---- Promises 7 to 10

    private static void roadsFromNoneToFull() {
        TJoins x = new TJoins(2);
        for (int m = 0; m < 12; m++) {
            due("roads", x.roads(), m);
            x.road(0, 1, 0);
        }
        due("roads, full", x.roads(), 12);
        x.road(0, 1, 0);
        due("roads after a 13th", x.roads(), 12);
        for (int m = 11; m >= 0; m--) {
            x.remove(0);
            due("roads", x.roads(), m);
        }
        x.remove(0);
        due("roads after a remove of none", x.roads(), 0);
    }

    private static void isJoinOfEmptyAndFullSets() {
        TJoins x = new TJoins(7);
        due("empty of none, nothing wanted", x.isJoin(0), 1);
        x.want(1);
        due("empty of none, one wanted", x.isJoin(0), 0);
        due("full, places 0 and 5 odd, 1 and 6 wanted", full().isJoin(4095), 0);
        TJoins full = full();
        full.want(full.oddPlaces());
        due("full, the odd places wanted", full.isJoin(4095), 1);
        due("full but one", full.isJoin(4094), 0);
        due("empty of 12", full.isJoin(0), 0);
    }

    private static void isJoinBelowNothing() {
        for (int set : new int[] {-1, -2, -4096, LOW + 1, LOW}) {
            due("isJoin(" + set + ") of 4", small().isJoin(set), -1);
            due("isJoin(" + set + ") of 12", full().isJoin(set), -1);
            due("isJoin(" + set + ") of none", new TJoins(2).isJoin(set), -1);
        }
    }

    private static void isJoinOfMissingRoads() {
        TJoins x = new TJoins(2);
        for (int m = 0; m <= 12; m++) {
            for (int set : new int[] {1 << m, (1 << m) + 1, 4096, 8192, 1 << 30, HIGH}) {
                due("isJoin(" + set + ") of " + m, x.isJoin(set), -1);
            }
            due("isJoin of all of " + m, x.isJoin((1 << m) - 1), 1);
            x.road(1, 1, 0);
        }
        for (int m = 11; m >= 0; m--) {
            x.remove(m);
            due("isJoin of the one that is gone", x.isJoin(1 << m), -1);
        }
    }

    private static void possibleOrNot() {
        TJoins x = new TJoins(7);
        due("no roads, nothing wanted", x.possible(), 1);
        x.turn(6);
        due("no roads, one wanted", x.possible(), 0);
        x.turn(0);
        due("no roads, two wanted", x.possible(), 0);
        x.road(0, 6, 20);
        due("only the full set is a join", x.possible(), 1);
        x.want(127);
        due("an odd number wanted", x.possible(), 0);
        x.want(0);
        due("only the empty set is a join", x.possible(), 1);
        due("full, two wanted", full().possible(), 1);
    }

    private static void joinsFromNoneToAll() {
        due("no roads, nothing wanted", new TJoins(2).joins(), 1);
        due("no roads, two wanted", empty().joins(), 0);
        due("all sets of 12 roads", loops(0).joins(), 4096);
        TJoins x = new TJoins(2);
        for (int m = 1; m <= 12; m++) {
            x.road(0, 1, -9);
            x.want(3);
            due("every second set of " + m, x.joins(), 1 << m - 1);
            x.want(1);
            due("one place wanted", x.joins(), 0);
        }
    }

    // ---- Promises 11 to 15

    private static void bestAtTheEdges() {
        due("no roads", new TJoins(7).best(), 0);
        due("the least of all", loops(-9).best(), -108);
        due("no road is needed", loops(20).best(), 0);
        TJoins x = oneRoad(0, 6, -1);
        x.want(65);
        due("a weight of -1 is no refusal", x.best(), -1);
        x.weigh(0, 0);
        due("a weight of 0", x.best(), 0);
        x.weigh(0, 20);
        due("a weight of 20", x.best(), 20);
        TJoins heavy = new TJoins(7);
        for (int p = 1; p < 7; p++) {
            heavy.road(0, p, 20);
        }
        heavy.want(126);
        due("all roads are needed", heavy.best(), 120);
    }

    private static void bestOfNone() {
        due("no roads, two wanted", empty().best(), -1000);
        TJoins x = full();
        x.want(1);
        due("12 roads, one wanted", x.best(), -1000);
        TJoins apart = oneRoad(0, 1, -9);
        apart.want(5);
        due("two wanted that are apart", apart.best(), -1000);
        apart.want(0);
        due("none again wanted", apart.best(), 0);
    }

    private static void bestSetAtTheEdges() {
        due("no roads", new TJoins(7).bestSet(), 0);
        due("all 12", loops(-9).bestSet(), 4095);
        due("none of 12", loops(1).bestSet(), 0);
        TJoins x = loops(0);
        x.weigh(11, -1);
        due("the last alone", x.bestSet(), 2048);
        x.weigh(0, -1);
        due("the first and the last", x.bestSet(), 2049);
    }

    private static void bestSetOfNone() {
        due("no roads, two wanted", empty().bestSet(), -1);
        TJoins x = full();
        x.want(1);
        due("12 roads, one wanted", x.bestSet(), -1);
        TJoins loop = oneRoad(0, 0, -9);
        loop.want(1);
        due("a road from the wanted place to itself", loop.bestSet(), -1);
    }

    private static void bestWithAtTheEdges() {
        due("the first, heavier than the empty set", loops(20).bestWith(0), 20);
        due("the last, heavier than the empty set", loops(20).bestWith(11), 20);
        due("in the best one already", loops(-9).bestWith(11), -108);
        TJoins x = loops(-9);
        x.weigh(0, 20);
        due("beside all others", x.bestWith(0), -79);
        TJoins one = oneRoad(0, 1, 7);
        one.want(3);
        due("the only road", one.bestWith(0), 7);
    }

    private static void bestWithBadRoad() {
        for (int e : badRoads(4)) {
            due("bestWith(" + e + ") of 4", small().bestWith(e), -2000);
        }
        for (int e : badRoads(12)) {
            due("bestWith(" + e + ") of 12", full().bestWith(e), -2000);
        }
        for (int e : badRoads(0)) {
            due("bestWith(" + e + ") of none", new TJoins(2).bestWith(e), -2000);
        }
    }

    private static void bestWithOfNone() {
        due("the tail leads to no wanted place", small().bestWith(3), -1000);
        due("the tail leads to no wanted place, but there is a join", small().best(), 3);
        TJoins one = oneRoad(0, 1, -9);
        due("nothing wanted", one.bestWith(0), -1000);
        one.want(1);
        due("no join at all", one.bestWith(0), -1000);
    }

    private static void bestWithOrder() {
        TJoins x = small();
        x.want(1);
        due("no join, a good road", x.bestWith(3), -1000);
        due("no join, not a road", x.bestWith(4), -2000);
        due("no join, no roads", empty().bestWith(0), -2000);
    }

    private static void bestWithoutAtTheEdges() {
        due("the empty set", loops(20).bestWithout(0), 0);
        due("all but the first", loops(-9).bestWithout(0), -99);
        due("all but the last", loops(-9).bestWithout(11), -99);
        TJoins one = oneRoad(0, 1, -9);
        due("only the empty set is left", one.bestWithout(0), 0);
        TJoins x = small();
        due("without one of the best", x.bestWithout(0), 4);
        due("without one that is not in the best", x.bestWithout(2), 3);
    }

    private static void bestWithoutBadRoad() {
        for (int e : badRoads(4)) {
            due("bestWithout(" + e + ") of 4", small().bestWithout(e), -2000);
        }
        for (int e : badRoads(12)) {
            due("bestWithout(" + e + ") of 12", full().bestWithout(e), -2000);
        }
        for (int e : badRoads(0)) {
            due("bestWithout(" + e + ") of none", new TJoins(2).bestWithout(e), -2000);
        }
    }

    private static void bestWithoutOfNone() {
        TJoins x = small();
        x.want(12);
        due("the only road to a wanted place", x.bestWithout(3), -1000);
        due("though there is a join", x.best(), 3);
        TJoins one = oneRoad(0, 1, -9);
        one.want(3);
        due("the only road", one.bestWithout(0), -1000);
        one.want(1);
        due("no join at all", one.bestWithout(0), -1000);
    }

    private static void bestWithoutOrder() {
        TJoins x = small();
        x.want(1);
        due("no join, a good road", x.bestWithout(3), -1000);
        due("no join, not a road", x.bestWithout(4), -2000);
        due("no join, no roads", empty().bestWithout(0), -2000);
    }

    private static void betweenHeedsNothingWanted() {
        TJoins x = small();
        for (int set = 0; set < 16; set++) {
            x.want(set);
            due("0 and 3, wanted " + set, x.between(0, 3), 6);
            due("1 and 1, wanted " + set, x.between(1, 1), 0);
        }
        TJoins outmost = oneRoad(6, 0, -9);
        due("first and last", outmost.between(0, 6), -9);
        due("last and first", outmost.between(6, 0), -9);
    }

    private static void betweenTheSame() {
        for (int p = 0; p < 7; p++) {
            due("no roads, " + p, new TJoins(7).between(p, p), 0);
            due("12 roads, " + p, full().between(p, p), 0);
        }
        for (int p = 0; p < 2; p++) {
            due("a round below 0 counts, wherever it is", loops(-9).between(p, p), -108);
            due("a round above 0 does not", loops(20).between(p, p), 0);
        }
    }

    private static void betweenFromBadPlace() {
        for (int p : badPlaces(4)) {
            due("between(" + p + ", 0)", small().between(p, 0), -2000);
            due("between(" + p + ", 3)", small().between(p, 3), -2000);
            due("between(" + p + ", " + p + ")", small().between(p, p), -2000);
        }
    }

    private static void betweenToBadPlace() {
        for (int q : badPlaces(4)) {
            due("between(0, " + q + ")", small().between(0, q), -2000);
            due("between(3, " + q + ")", small().between(3, q), -2000);
        }
    }

    private static void betweenOfNone() {
        due("no roads", new TJoins(2).between(0, 1), -1000);
        TJoins x = oneRoad(0, 1, -9);
        x.road(2, 2, -9);
        due("apart", x.between(0, 2), -1000);
        due("apart", x.between(2, 1), -1000);
        due("two lone places", x.between(5, 6), -1000);
        due("joined", x.between(1, 0), -18);
    }

    private static void betweenOrder() {
        due("not joined and not good", new TJoins(2).between(0, 2), -2000);
        due("not joined and not good", new TJoins(2).between(-1, 1), -2000);
        due("the same and not good", new TJoins(2).between(2, 2), -2000);
    }

    // ---- Promises 16 and 17

    private static void postmanAtTheEdges() {
        due("one road there and back", oneRoad(0, 6, 20).postman(), 20);
        due("one road of weight 0", oneRoad(0, 6, 0).postman(), 0);
        due("one road to itself", oneRoad(6, 6, 20).postman(), 0);
        due("12 roads to themselves", loops(20).postman(), 0);
        TJoins twice = oneRoad(0, 6, 20);
        twice.road(6, 0, 20);
        due("two roads are a round", twice.postman(), 0);
        twice.road(0, 6, 3);
        due("three roads: the least of them twice", twice.postman(), 3);
        TJoins star = new TJoins(7);
        for (int p = 0; p < 6; p++) {
            star.road(6, p, 20);
        }
        due("every road twice", star.postman(), 120);
        due("12 roads: 0-1-2-3-4-5 against 0-6-5", full().postman(), 10);
        TJoins wanted = oneRoad(0, 1, 5);
        for (int set = 0; set < 128; set++) {
            wanted.want(set);
            due("whatever is wanted", wanted.postman(), 5);
        }
    }

    private static void postmanBelowNothing() {
        for (int weight = -9; weight <= 20; weight++) {
            due("a round with the weight " + weight, oneRoad(3, 3, weight).postman(), weight < 0 ? -1 : 0);
        }
        for (int e = 0; e < 12; e++) {
            TJoins x = full();
            x.weigh(e, -1);
            due("road " + e + " of 12 below 0", x.postman(), -1);
            x.weigh(e, 0);
            due("and 0 again", x.postman() >= 0 ? 1 : 0, 1);
        }
        TJoins gone = small();
        gone.road(0, 1, -9);
        due("below 0", gone.postman(), -1);
        gone.remove(4);
        due("the road below 0 is gone", gone.postman(), 3);
    }

    private static void postmanOfParts() {
        TJoins pairs = oneRoad(0, 1, 0);
        pairs.road(2, 3, 0);
        due("two roads apart", pairs.postman(), -2);
        TJoins loops = oneRoad(0, 0, 0);
        loops.road(1, 1, 0);
        due("two roads to themselves apart", loops.postman(), -2);
        TJoins rounds = oneRoad(0, 1, 0);
        rounds.road(0, 1, 0);
        rounds.road(5, 6, 0);
        rounds.road(5, 6, 0);
        due("two closed rounds apart", rounds.postman(), -2);
        TJoins mixed = oneRoad(0, 1, 4);
        mixed.road(6, 6, 0);
        due("a road to itself apart", mixed.postman(), -2);
        mixed.road(1, 6, 1);
        due("a road joins them", mixed.postman(), 5);
        mixed.remove(2);
        due("and is gone", mixed.postman(), -2);
        mixed.remove(1);
        due("what was apart is gone", mixed.postman(), 4);
        TJoins lastApart = new TJoins(7);
        for (int e = 0; e < 11; e++) {
            lastApart.road(e % 5, (e + 1) % 5, 1);
        }
        lastApart.road(5, 6, 1);
        due("the 12th apart", lastApart.postman(), -2);
    }

    private static void postmanHeedsNoLonePlaces() {
        for (int p = 0; p < 7; p++) {
            for (int q = 0; q < 7; q++) {
                due("only a road " + p + "-" + q + " in 7 places", oneRoad(p, q, 9).postman(), p == q ? 0 : 9);
            }
        }
        TJoins wanted = oneRoad(0, 1, 9);
        wanted.want(96);
        due("lone places that are wanted", wanted.postman(), 9);
    }

    /** A line of six roads over seven places, put in every order of the roads. */
    private static void postmanInAnyOrder() {
        int[] order = {0, 1, 2, 3, 4, 5};
        int[] turns = new int[6];
        lineIn(order);
        int at = 0;
        while (at < 6) {
            if (turns[at] < at) {
                int other = at % 2 == 0 ? 0 : turns[at];
                int kept = order[at];
                order[at] = order[other];
                order[other] = kept;
                lineIn(order);
                turns[at]++;
                at = 0;
            } else {
                turns[at] = 0;
                at++;
            }
        }
    }

    private static void lineIn(int[] order) {
        TJoins x = new TJoins(7);
        for (int p : order) {
            x.road(p, p + 1, 1);
        }
        due("a line put in some order", x.postman(), 6);
        x.remove(2);
        boolean endIsGone = order[2] == 0 || order[2] == 5;
        due("a line with one road out", x.postman(), endIsGone ? 5 : -2);
        TJoins looped = new TJoins(7);
        looped.road(0, 0, 1);
        looped.road(6, 6, 1);
        for (int p : order) {
            looped.road(p, p + 1, 1);
        }
        due("a line with a road to itself at both its ends", looped.postman(), 6);
    }

    private static void postmanOfNone() {
        for (int n = 2; n <= 7; n++) {
            TJoins x = new TJoins(n);
            due("new", x.postman(), 0);
            x.want(1);
            due("a place wanted", x.postman(), 0);
            x.road(0, 0, -9);
            x.road(1, 1, 20);
            x.road(0, 1, 20);
            x.remove(2);
            x.remove(1);
            x.remove(0);
            due("all roads gone", x.postman(), 0);
        }
    }

    private static void postmanOrder() {
        TJoins x = oneRoad(0, 1, 1);
        x.road(2, 3, -1);
        due("below 0 and apart", x.postman(), -1);
        x.weigh(1, 0);
        due("apart alone", x.postman(), -2);
        x.weigh(0, -9);
        due("below 0 and apart again", x.postman(), -1);
        x.road(1, 2, 1);
        due("below 0 alone", x.postman(), -1);
        x.weigh(0, 1);
        due("neither", x.postman(), 2);
    }

    private static void oddPlacesFromNoneToFull() {
        due("no roads", new TJoins(7).oddPlaces(), 0);
        due("12 roads to themselves", loops(1).oddPlaces(), 0);
        due("a ring of 7 and 5 of it twice", full().oddPlaces(), 33);
        TJoins star = new TJoins(7);
        star.road(0, 1, 1);
        for (int p = 2; p < 7; p++) {
            star.road(0, p, 1);
        }
        due("six ends at 0", star.oddPlaces(), 126);
        star.road(0, 0, 1);
        due("eight ends at 0", star.oddPlaces(), 126);
        star.remove(5);
        due("seven ends at 0", star.oddPlaces(), 63);
        star.want(127);
        due("whatever is wanted", star.oddPlaces(), 63);
    }
}
