/** Each promise of the document by hand: ordinary inputs, the edges it names, and wrong inputs. */
public final class PromisesTest {
    private static final int LOW = Integer.MIN_VALUE;
    private static final int HIGH = Integer.MAX_VALUE;
    private static int wrong = 0;

    private static void due(String what, int got, int want) {
        if (got != want) {
            wrong++;
            System.out.println(what + " answered " + got + ", due is " + want);
        }
    }

    public static void main(String[] args) {
        newObject();
        road();
        roadOrderOfTests();
        roadRefusedChangesNothing();
        remove();
        weigh();
        want();
        turn();
        roads();
        isJoin();
        possible();
        joins();
        best();
        bestSet();
        bestWith();
        bestWithout();
        between();
        postman();
        postmanRefusals();
        oddPlaces();
        questionsChangeNothing();
        System.out.println(wrong == 0 ? "all answers are as due" : wrong + " answers are not as due");
        if (wrong != 0) {
            System.exit(1);
        }
    }

    /** A triangle 0-1-2 with weights 1, 2, 4 and a road 2-3 of weight 3. */
    private static TJoins triangleWithTail() {
        TJoins x = new TJoins(4);
        x.road(0, 1, 1);
        x.road(1, 2, 2);
        x.road(2, 0, 4);
        x.road(2, 3, 3);
        return x;
    }

    private static TJoins fullOfRoads() {
        TJoins x = new TJoins(7);
        for (int e = 0; e < 12; e++) {
            due("one of 12 roads", x.road(e % 7, (e + 1) % 7, e), e);
        }
        return x;
    }

    private static void newObject() {
        int[] asked = {LOW, -1, 0, 1, 2, 3, 4, 5, 6, 7, 8, 100, HIGH};
        int[] given = {2, 2, 2, 2, 2, 3, 4, 5, 6, 7, 7, 7, 7};
        for (int i = 0; i < asked.length; i++) {
            String name = "TJoins(" + asked[i] + ") ";
            TJoins x = new TJoins(asked[i]);
            due(name + "roads", x.roads(), 0);
            due(name + "no wanted places", x.want(0), 0);
            due(name + "turn of the place above", x.turn(given[i]), -1);
            due(name + "turn of the last place", x.turn(given[i] - 1), 1 << (given[i] - 1));
        }
    }

    private static void road() {
        TJoins x = new TJoins(3);
        due("first road", x.road(0, 1, 5), 0);
        due("a second between the same", x.road(1, 0, 5), 1);
        due("a place to itself", x.road(2, 2, 5), 2);
        due("least weight", x.road(0, 2, -9), 3);
        due("most weight", x.road(0, 2, 20), 4);
        int[] badPlaces = {LOW, -1, 3, 4, 31, 32, HIGH};
        for (int p : badPlaces) {
            due("road from " + p, x.road(p, 0, 0), -1);
            due("road to " + p, x.road(0, p, 0), -1);
            due("road in " + p, x.road(p, p, 0), -1);
        }
        int[] badWeights = {LOW, -10, 21, HIGH};
        for (int w : badWeights) {
            due("road of weight " + w, x.road(0, 1, w), -2);
        }
        due("refused roads are not there", x.roads(), 5);
        due("the weight is kept", x.weigh(3, 0), -9);
        due("the weight is kept", x.weigh(4, 0), 20);
    }

    private static void roadOrderOfTests() {
        TJoins x = fullOfRoads();
        due("13th road", x.road(0, 1, 1), -3);
        due("13th road, bad weight", x.road(0, 1, 21), -2);
        due("13th road, bad place", x.road(0, 7, 1), -1);
        due("bad place and weight", x.road(-1, 0, -10), -1);
        due("still 12", x.roads(), 12);
        due("one less", x.remove(11), 11);
        due("room again", x.road(0, 0, 0), 11);
        due("full again", x.road(0, 0, 0), -3);
    }

    private static void roadRefusedChangesNothing() {
        TJoins x = triangleWithTail();
        x.road(0, 4, 1);
        x.road(0, 1, -10);
        due("roads after refusals", x.roads(), 4);
        due("odd places after refusals", x.oddPlaces(), 12);
        due("postman after refusals", x.postman(), 3);
    }

    private static void remove() {
        TJoins x = triangleWithTail();
        int[] bad = {LOW, -1, 4, 5, 12, HIGH};
        for (int e : bad) {
            due("remove(" + e + ")", x.remove(e), -1);
        }
        due("refused removes", x.roads(), 4);
        due("remove(1)", x.remove(1), 3);
        due("the first keeps its number", x.weigh(0, 1), 1);
        due("a later one moves", x.weigh(1, 4), 4);
        due("the last one moves", x.weigh(2, 3), 3);
        due("no road at the old number", x.weigh(3, 3), -1);
        due("ends move too", x.oddPlaces(), 10);
        x.want(12);
        due("ends move too", x.bestSet(), 4);
        due("remove last", x.remove(2), 2);
        due("remove last again", x.remove(2), -1);
        due("remove first", x.remove(0), 1);
        due("the one that is left", x.weigh(0, 4), 4);
        due("remove the only one", x.remove(0), 0);
        due("remove of none", x.remove(0), -1);
        due("numbers begin anew", x.road(0, 1, 1), 0);
        TJoins parts = new TJoins(5);
        parts.road(0, 1, 1);
        parts.road(2, 3, 1);
        parts.road(3, 4, 1);
        due("two parts", parts.postman(), -2);
        parts.remove(0);
        due("the part that is left", parts.postman(), 2);
        TJoins full = fullOfRoads();
        due("remove from 12", full.remove(0), 11);
        due("the last of 12 moved", full.weigh(10, 0), 11);
    }

    private static void weigh() {
        TJoins x = triangleWithTail();
        due("weigh answers the one before", x.weigh(2, -9), 4);
        due("and then the new one", x.weigh(2, 20), -9);
        due("and the newest", x.weigh(2, 4), 20);
        int[] badRoads = {LOW, -1, 4, 12, HIGH};
        for (int e : badRoads) {
            due("weigh(" + e + ", 0)", x.weigh(e, 0), -1);
            due("weigh(" + e + ", 21)", x.weigh(e, 21), -1);
        }
        int[] badWeights = {LOW, -10, 21, HIGH};
        for (int w : badWeights) {
            due("weigh(0, " + w + ")", x.weigh(0, w), -2);
        }
        due("refused weights are not there", x.weigh(0, 1), 1);
        x.want(5);
        due("best before", x.best(), 3);
        x.weigh(2, 2);
        due("best after", x.best(), 2);
    }

    private static void want() {
        TJoins x = new TJoins(3);
        due("want answers the set before", x.want(5), 0);
        due("want answers the set before", x.want(7), 5);
        int[] bad = {LOW, -1, 8, 9, HIGH};
        for (int set : bad) {
            due("want(" + set + ")", x.want(set), -1);
        }
        due("refused sets are not there", x.want(0), 7);
        due("want(0) again", x.want(0), 0);
        TJoins seven = new TJoins(7);
        due("want(128)", seven.want(128), -1);
        due("want(127)", seven.want(127), 0);
        due("want(127) was there", seven.want(1), 127);
    }

    private static void turn() {
        TJoins x = new TJoins(3);
        due("turn(0)", x.turn(0), 1);
        due("turn(2)", x.turn(2), 5);
        due("turn(0) back", x.turn(0), 4);
        int[] bad = {LOW, -1, 3, 32, HIGH};
        for (int p : bad) {
            due("turn(" + p + ")", x.turn(p), -1);
        }
        due("want sees what turn did", x.want(6), 4);
        due("turn sees what want did", x.turn(1), 4);
    }

    private static void roads() {
        TJoins x = new TJoins(2);
        due("no roads", x.roads(), 0);
        x.road(0, 1, 0);
        due("one road", x.roads(), 1);
        x.road(0, 0, 0);
        due("two roads", x.roads(), 2);
        x.remove(0);
        due("one road again", x.roads(), 1);
    }

    private static void isJoin() {
        TJoins none = new TJoins(2);
        due("the empty set of no roads", none.isJoin(0), 1);
        due("a set of no roads", none.isJoin(1), -1);
        TJoins x = triangleWithTail();
        due("empty", x.isJoin(0), 1);
        due("the triangle", x.isJoin(7), 1);
        due("all", x.isJoin(15), 0);
        x.want(5);
        due("0-1-2", x.isJoin(3), 1);
        due("0-2", x.isJoin(4), 1);
        due("empty, 0 and 2 wanted", x.isJoin(0), 0);
        due("too many odd places", x.isJoin(12), 0);
        int[] bad = {LOW, -1, 16, 17, 4096, HIGH};
        for (int set : bad) {
            due("isJoin(" + set + ")", x.isJoin(set), -1);
        }
        x.road(1, 1, 0);
        due("a road to itself counts twice", x.isJoin(3 + 16), 1);
        x.want(2);
        due("a road to itself leaves nothing odd", x.isJoin(16), 0);
        TJoins full = fullOfRoads();
        due("isJoin(4095)", full.isJoin(4095), 0);
        due("isJoin(4096)", full.isJoin(4096), -1);
    }

    private static void possible() {
        TJoins x = new TJoins(4);
        due("nothing wanted, no roads", x.possible(), 1);
        x.want(3);
        due("two wanted, no roads", x.possible(), 0);
        x.road(0, 1, 5);
        due("two wanted, joined", x.possible(), 1);
        x.want(9);
        due("two wanted, not joined", x.possible(), 0);
        x.want(1);
        due("one wanted", x.possible(), 0);
        x.want(15);
        due("four wanted, two joined", x.possible(), 0);
        x.road(2, 3, 5);
        due("four wanted, joined by pairs", x.possible(), 1);
        x.want(8);
        x.road(3, 3, 0);
        due("one wanted with a road to itself", x.possible(), 0);
    }

    private static void joins() {
        TJoins x = new TJoins(3);
        due("the empty set", x.joins(), 1);
        x.road(0, 1, 1);
        due("one road, nothing wanted", x.joins(), 1);
        x.road(0, 1, 1);
        due("two roads, nothing wanted", x.joins(), 2);
        x.road(2, 2, 1);
        due("and one to itself", x.joins(), 4);
        x.want(3);
        due("two wanted", x.joins(), 4);
        x.want(5);
        due("not joined", x.joins(), 0);
        TJoins loops = new TJoins(2);
        for (int e = 0; e < 12; e++) {
            loops.road(e % 2, e % 2, e);
        }
        due("12 roads to themselves", loops.joins(), 4096);
    }

    private static void best() {
        TJoins x = triangleWithTail();
        due("nothing wanted", x.best(), 0);
        x.want(5);
        due("round about is less", x.best(), 3);
        x.want(9);
        due("with the tail", x.best(), 6);
        x.want(15);
        due("all wanted", x.best(), 4);
        x.want(1);
        due("one wanted", x.best(), -1000);
        x.want(0);
        x.weigh(2, -9);
        due("a round of weight below 0", x.best(), -6);
        TJoins low = new TJoins(2);
        TJoins high = new TJoins(2);
        for (int e = 0; e < 12; e++) {
            low.road(0, 0, -9);
            high.road(0, 0, 20);
        }
        due("least of all", low.best(), -108);
        due("no road of weight above 0 is needed", high.best(), 0);
    }

    private static void bestSet() {
        TJoins x = triangleWithTail();
        due("nothing wanted", x.bestSet(), 0);
        x.want(5);
        due("round about", x.bestSet(), 3);
        x.weigh(2, 3);
        due("same weight, lesser number", x.bestSet(), 3);
        x.weigh(2, 2);
        due("lesser weight, greater number", x.bestSet(), 4);
        x.want(1);
        due("none", x.bestSet(), -1);
        TJoins zero = new TJoins(2);
        zero.road(0, 0, 0);
        zero.road(1, 1, -1);
        zero.road(1, 1, 0);
        due("roads of weight 0 are left out", zero.bestSet(), 2);
        TJoins same = new TJoins(2);
        same.road(0, 1, 4);
        same.road(0, 1, 4);
        same.want(3);
        due("two roads alike", same.bestSet(), 1);
    }

    private static void bestWith() {
        TJoins x = triangleWithTail();
        int[] bad = {LOW, -1, 4, 12, 32, HIGH};
        for (int e : bad) {
            due("bestWith(" + e + ")", x.bestWith(e), -2000);
        }
        due("the whole triangle", x.bestWith(0), 7);
        due("the tail is on no round", x.bestWith(3), -1000);
        x.want(5);
        due("in the best", x.bestWith(1), 3);
        due("not in the best", x.bestWith(2), 4);
        x.want(1);
        due("no join at all", x.bestWith(0), -1000);
        due("not good comes first", x.bestWith(4), -2000);
        due("no roads", new TJoins(3).bestWith(0), -2000);
    }

    private static void bestWithout() {
        TJoins x = triangleWithTail();
        int[] bad = {LOW, -1, 4, 12, 32, HIGH};
        for (int e : bad) {
            due("bestWithout(" + e + ")", x.bestWithout(e), -2000);
        }
        due("the empty set", x.bestWithout(0), 0);
        x.want(5);
        due("the other way", x.bestWithout(1), 4);
        due("not in the best", x.bestWithout(2), 3);
        x.want(8 + 4);
        due("the tail is needed", x.bestWithout(3), -1000);
        x.want(1);
        due("no join at all", x.bestWithout(0), -1000);
        due("not good comes first", x.bestWithout(4), -2000);
        due("no roads", new TJoins(3).bestWithout(0), -2000);
    }

    private static void between() {
        TJoins x = triangleWithTail();
        x.want(2);
        due("0 and 2", x.between(0, 2), 3);
        due("2 and 0", x.between(2, 0), 3);
        due("0 and 3", x.between(0, 3), 6);
        due("the same", x.between(1, 1), 0);
        int[] bad = {LOW, -1, 4, 32, HIGH};
        for (int p : bad) {
            due("between(" + p + ", 0)", x.between(p, 0), -2000);
            due("between(0, " + p + ")", x.between(0, p), -2000);
            due("between(" + p + ", " + p + ")", x.between(p, p), -2000);
        }
        due("the wanted places stay", x.want(0), 2);
        x.weigh(2, -9);
        due("the same, a round below 0", x.between(3, 3), -6);
        x.remove(3);
        due("not joined", x.between(0, 3), -1000);
    }

    private static void postman() {
        TJoins x = new TJoins(4);
        due("no roads", x.postman(), 0);
        x.want(1);
        due("no roads, a place wanted", x.postman(), 0);
        x.road(0, 1, 5);
        due("there and back", x.postman(), 5);
        x.road(1, 2, 2);
        due("a line", x.postman(), 7);
        x.road(2, 0, 9);
        due("a round", x.postman(), 0);
        x.road(0, 2, 20);
        due("the least way from 0 to 2", x.postman(), 7);
        x.road(3, 2, 0);
        due("a road of weight 0", x.postman(), 7);
        x.road(3, 3, 20);
        due("a road to itself", x.postman(), 7);
        due("the wanted places stay", x.want(0), 1);
        TJoins star = new TJoins(4);
        star.road(0, 1, 20);
        star.road(0, 2, 20);
        star.road(0, 3, 20);
        due("a star", star.postman(), 60);
        TJoins loop = new TJoins(4);
        loop.road(3, 3, 20);
        due("only a road to itself", loop.postman(), 0);
    }

    private static void postmanRefusals() {
        TJoins x = new TJoins(7);
        x.road(0, 1, 1);
        x.road(2, 3, 1);
        due("two parts", x.postman(), -2);
        x.road(4, 4, -1);
        due("below 0 comes first", x.postman(), -1);
        x.weigh(2, 0);
        due("three parts", x.postman(), -2);
        x.road(3, 4, 1);
        x.road(1, 2, 1);
        due("all in one", x.postman(), 4);
        x.road(5, 5, 0);
        due("a road to itself apart", x.postman(), -2);
        x.remove(5);
        due("taken out again", x.postman(), 4);
        TJoins line = new TJoins(7);
        line.road(0, 1, 1);
        for (int p = 5; p > 0; p--) {
            line.road(p, p + 1, 1);
        }
        due("a line told from its far end", line.postman(), 6);
        TJoins low = new TJoins(2);
        low.road(0, 1, -1);
        due("one road below 0", low.postman(), -1);
    }

    private static void oddPlaces() {
        TJoins x = new TJoins(7);
        due("no roads", x.oddPlaces(), 0);
        x.road(0, 6, 1);
        due("one road", x.oddPlaces(), 65);
        x.road(3, 3, 1);
        due("a road to itself", x.oddPlaces(), 65);
        x.road(6, 1, 1);
        due("a line", x.oddPlaces(), 3);
        x.road(1, 0, 1);
        due("a round", x.oddPlaces(), 0);
        x.want(127);
        due("the wanted places don't matter", x.oddPlaces(), 0);
        x.remove(0);
        due("one less", x.oddPlaces(), 65);
    }

    private static void questionsChangeNothing() {
        TJoins x = triangleWithTail();
        x.want(5);
        for (int time = 0; time < 2; time++) {
            due("roads", x.roads(), 4);
            due("isJoin", x.isJoin(3), 1);
            due("possible", x.possible(), 1);
            due("joins", x.joins(), 2);
            due("best", x.best(), 3);
            due("bestSet", x.bestSet(), 3);
            due("bestWith", x.bestWith(2), 4);
            due("bestWithout", x.bestWithout(0), 4);
            due("between", x.between(1, 3), 5);
            due("postman", x.postman(), 3);
            due("oddPlaces", x.oddPlaces(), 12);
        }
        due("wanted", x.want(5), 5);
    }
}
