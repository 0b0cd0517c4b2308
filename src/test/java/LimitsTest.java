/** Promises 1, 6 to 11 and 21: what may be told, what is refused, and the questions' wrong inputs. */
public final class LimitsTest {
    private static final int LEAST = Integer.MIN_VALUE;
    private static final int MOST = Integer.MAX_VALUE;
    private static final int NO_SUCH = -1000000;
    private static final Checks CHECKS = new Checks();

    public static void main(String[] args) {
        newRoad();
        inns();
        rooms();
        caravans();
        bales();
        shuts();
        looks();
        factsTogether();
        wrongQuestions();
        due("NONE", CaravanRoad.NONE, -1);
        CHECKS.end();
    }

    private static void newRoad() {
        CaravanRoad road = new CaravanRoad();
        for (int what = 0; what <= 5; what++) {
            due("count(" + what + ") of a new road", road.count(what), 0);
        }
        for (int what : new int[] {-1, 6, LEAST, MOST}) {
            due("count(" + what + ")", road.count(what), -1);
        }
        due("place()", road.place(), -1);
        due("state", road.state(0, 0, 0, 0), NO_SUCH);
        due("house", road.house(0, 0, 0, 0), NO_SUCH);
        due("full", road.full(0, 0, 0, 0), NO_SUCH);
        due("comes", road.comes(0, 0), -1);
        due("barred", road.barred(0, 0, 0), -1);
        due("could", road.could(0, 0), -1);
        due("sealed", road.sealed(0, 0, 0), -1);
        due("tolls", road.tolls(0, 0, 0), 0);
        due("crowded", road.crowded(0, 0, 0), -1);
        due("room", road.room(0, 1), -1);
        due("caravan", road.caravan(0, 1, 1, 0, 1, 0), -1);
        due("bale", road.bale(0), -1);
        due("shut", road.shut(0, 0), -1);
        due("look", road.look(0, 0, true), -1);
    }

    private static void inns() {
        CaravanRoad road = new CaravanRoad();
        int[][] wrong = {{-1, 0, 0}, {5, 0, 0}, {0, -1, 0}, {0, 61, 0}, {0, 0, -1}, {0, 0, 61},
            {LEAST, 0, 0}, {MOST, 0, 0}, {0, LEAST, 0}, {0, MOST, 0}, {0, 0, LEAST}, {0, 0, MOST}};
        for (int[] w : wrong) {
            due("inn of " + w[0] + " " + w[1] + " " + w[2], road.inn(w[0], w[1], w[2]), -1);
        }
        due("count(0)", road.count(0), 0);
        for (int i = 0; i < 8; i++) {
            due("inn " + i, road.inn(i % 5, i % 2 * 60, 60 - i % 2 * 60), i);
        }
        due("a ninth inn", road.inn(0, 0, 0), -1);
        due("count(0)", road.count(0), 8);
        due("fodder of inn 0", road.house(0, 0, 0, 1), 60);
        due("fodder of inn 7", road.house(7, 0, 0, 1), 0);
    }

    private static void rooms() {
        CaravanRoad road = new CaravanRoad();
        road.inn(0, 0, 0);
        road.inn(0, 0, 0);
        int[][] wrong = {{-1, 1}, {2, 1}, {0, 0}, {0, 21}, {LEAST, 1}, {MOST, 1}, {0, LEAST},
            {0, MOST}};
        for (int[] w : wrong) {
            due("room of " + w[0] + " " + w[1], road.room(w[0], w[1]), -1);
        }
        for (int i = 0; i < 3; i++) {
            due("room " + i, road.room(1, i == 0 ? 1 : 20), i);
        }
        due("a fourth room", road.room(1, 1), -1);
        due("a room of the other inn", road.room(0, 1), 0);
        due("full of room 2", road.full(1, 2, 0, 0), 0);
        due("full of no room 3", road.full(1, 3, 0, 0), NO_SUCH);
        due("full of no room 1", road.full(0, 1, 0, 0), NO_SUCH);
    }

    private static void caravans() {
        CaravanRoad road = new CaravanRoad();
        road.inn(0, 0, 0);
        due("a caravan on one inn", road.caravan(0, 1, 1, 0, 1, 0), -1);
        road.inn(0, 0, 0);
        int[] right = {0, 1, 1, 0, 1, 0};
        int[][] wrong = {{-1, 4, LEAST, MOST}, {0, 31, LEAST, MOST}, {0, 10, LEAST, MOST},
            {-1, 2, 1, LEAST, MOST}, {-1, 2, 0, LEAST, MOST}, {-1, 60, LEAST, MOST}};
        for (int i = 0; i < right.length; i++) {
            for (int value : wrong[i]) {
                int[] r = right.clone();
                r[i] = value;
                due("caravan with " + value + " at " + i,
                        road.caravan(r[0], r[1], r[2], r[3], r[4], r[5]), -1);
            }
        }
        due("count(1)", road.count(1), 0);
        due("caravan 0", road.caravan(0, 1, 1, 0, 1, 0), 0);
        due("caravan 1", road.caravan(3, 30, 9, 1, 0, 59), 1);
        for (int i = 2; i < 6; i++) {
            due("caravan " + i, road.caravan(i % 4, i, i, i % 2, 1 - i % 2, i), i);
        }
        due("a seventh caravan", road.caravan(0, 1, 1, 0, 1, 0), -1);
        due("count(1)", road.count(1), 6);
    }

    private static void bales() {
        CaravanRoad road = new CaravanRoad();
        road.inn(0, 0, 0);
        road.inn(0, 0, 0);
        due("a bale of none", road.bale(0), -1);
        road.caravan(0, 1, 1, 0, 1, 0);
        for (int c : new int[] {-1, 1, LEAST, MOST}) {
            due("bale(" + c + ")", road.bale(c), -1);
        }
        for (int i = 0; i < 60; i++) {
            due("bale " + i, road.bale(0), i);
        }
        due("a 61st bale", road.bale(0), -1);
        due("count(2)", road.count(2), 60);
        Checks.read(road, "first bales;");
        due("FIRST by bales", road.state(0, 0, 0, 6), 60);
    }

    private static void shuts() {
        CaravanRoad road = new CaravanRoad();
        road.inn(0, 0, 0);
        due("a road behind the only inn", road.shut(0, 0), -1);
        road.inn(0, 0, 0);
        road.inn(0, 0, 0);
        int[][] wrong = {{-1, 0}, {2, 0}, {3, 0}, {LEAST, 0}, {MOST, 0}, {0, -1}, {0, 60},
            {0, LEAST}, {0, MOST}};
        for (int[] w : wrong) {
            due("shut of " + w[0] + " " + w[1], road.shut(w[0], w[1]), -1);
        }
        due("count(3)", road.count(3), 0);
        due("shut(0, 0)", road.shut(0, 0), 0);
        due("shut(1, 59)", road.shut(1, 59), 1);
        due("shut(1, 59) again", road.shut(1, 59), 2);
    }

    private static void looks() {
        CaravanRoad road = oneBale();
        int[][] wrong = {{-1, 0}, {1, 0}, {LEAST, 0}, {MOST, 0}, {0, -1}, {0, 60}, {0, LEAST},
            {0, MOST}};
        for (int[] w : wrong) {
            due("look of " + w[0] + " " + w[1], road.look(w[0], w[1], false), -1);
        }
        due("count(3)", road.count(3), 0);
        due("look(0, 0, true)", road.look(0, 0, true), 0);
        due("look(0, 59, false)", road.look(0, 59, false), 1);
    }

    private static void factsTogether() {
        CaravanRoad road = oneBale();
        for (int i = 0; i < 300; i++) {
            int got = i % 2 == 0 ? road.shut(0, i % 60) : road.look(0, i % 60, true);
            due("fact " + i, got, i);
        }
        due("a 301st fact, shut", road.shut(0, 0), -1);
        due("a 301st fact, look", road.look(0, 0, false), -1);
        due("count(3)", road.count(3), 300);
        due("could", road.could(0, 300), -1);
        due("sealed as known by 300", road.sealed(0, 59, 300), 1);
        due("sealed as known by 301", road.sealed(0, 59, 301), -1);
    }

    private static void wrongQuestions() {
        CaravanRoad road = oneBale();
        road.room(0, 9);
        road.look(0, 1, false);
        for (int i : new int[] {-1, 2, LEAST, MOST}) {
            due("state of caravan " + i, road.state(i, 0, 0, 0), NO_SUCH);
            due("house of inn " + i, road.house(i, 0, 0, 0), NO_SUCH);
            due("full of inn " + i, road.full(i, 0, 0, 0), NO_SUCH);
            due("full of room " + i, road.full(0, i, 0, 0), NO_SUCH);
            due("comes of caravan " + i, road.comes(i, 0), -1);
            due("barred of caravan " + i, road.barred(i, 1, 0), -1);
            due("could of bale " + i, road.could(i, 1), -1);
            due("sealed of bale " + i, road.sealed(i, 0, 0), -1);
            due("crowded of inn " + i, road.crowded(i, 0, 0), -1);
            wrongN(road, i);
        }
        for (int day : new int[] {-1, 60, LEAST, MOST}) {
            due("state on day " + day, road.state(0, day, 0, 0), NO_SUCH);
            due("house on day " + day, road.house(0, day, 0, 0), NO_SUCH);
            due("full on day " + day, road.full(0, 0, day, 0), NO_SUCH);
            due("barred on day " + day, road.barred(0, day, 0), -1);
            due("sealed on day " + day, road.sealed(0, day, 0), -1);
            due("tolls on day " + day, road.tolls(0, day, 0), 0);
            due("crowded on day " + day, road.crowded(0, day, 0), -1);
        }
        for (int what : new int[] {-1, 7, LEAST, MOST}) {
            due("state of what " + what, road.state(0, 0, 0, what), NO_SUCH);
            due("house of what " + what, road.house(0, 0, 0, what), NO_SUCH);
        }
        due("house of what 4", road.house(0, 0, 0, 4), NO_SUCH);
        due("full of no room 1", road.full(0, 1, 0, 0), NO_SUCH);
        due("tolls of lord -1", road.tolls(-1, 0, 0), 0);
        due("tolls of lord 5", road.tolls(5, 0, 0), 0);
        due("tolls of lord MOST", road.tolls(MOST, 0, 0), 0);
    }

    private static void wrongN(CaravanRoad road, int n) {
        due("state as known by " + n, road.state(0, 0, n, 0), NO_SUCH);
        due("house as known by " + n, road.house(0, 0, n, 0), NO_SUCH);
        due("full as known by " + n, road.full(0, 0, 0, n), NO_SUCH);
        due("comes as known by " + n, road.comes(0, n), -1);
        due("barred as known by " + n, road.barred(0, 1, n), -1);
        due("could as known by " + n, road.could(0, n), -1);
        due("sealed as known by " + n, road.sealed(0, 0, n), -1);
        due("tolls as known by " + n, road.tolls(0, 0, n), 0);
        due("crowded as known by " + n, road.crowded(0, 0, n), -1);
    }

    private static CaravanRoad oneBale() {
        CaravanRoad road = new CaravanRoad();
        road.inn(0, 0, 0);
        road.inn(0, 0, 0);
        road.caravan(0, 1, 1, 0, 1, 0);
        road.bale(0);
        return road;
    }

    private static void due(String call, long got, long want) {
        CHECKS.due(call, got, want);
    }
}
