import java.util.function.IntUnaryOperator;

/** Promises 12 to 16, 19 and 20, a sentence of the document a test: what is asked of the road. */
public final class EdgeAnswerTest {
    private static final int NO_SUCH = -1000000;
    private static final Checks CHECKS = new Checks();

    public static void main(String[] args) {
        statesAheadAndBehind();
        statesAreOfWhatIsKnown();
        statesOfRoomsAndOutside();
        statesOfNoSuchOnes();
        housesOfAnEmptyInn();
        housesOfAFullInn();
        housesOfNoSuchOnes();
        roomsEmptyAndFull();
        roomsOfNoSuchOnes();
        comesByTheLastDay();
        comesOfNoSuchOnes();
        theFirstRuleThatBars();
        barredByNone();
        barredWhenItDoesNotGoOn();
        barredOfNoSuchOnes();
        tollsByTheEvening();
        tollsOfOthers();
        crowdedFromADayOn();
        crowdedByNobody();
        crowdedOfNoSuchOnes();
        questionsChangeNothing();
        CHECKS.end();
    }

    /** "NONE: it has not begun, or is gone"; "0 without an INN". */
    private static void statesAheadAndBehind() {
        CaravanRoad road = sample();
        Checks.read(road, "first 9; toll 1 3;");
        int[][] dues = {
            {-1, -1, 0, 0, 0, 0, 0}, {0, -1, 1, 1, 0, 1, 9}, {1, 0, 2, 1, 3, 0, 9}, {-1, -1, 2, 1, 3, 0, 0}};
        for (int day = 1; day <= 4; day++) {
            for (int what = 0; what <= 6; what++) {
                due("state(0, " + day + ", 0, " + what + ")", road.state(0, day, 0, what), dues[day - 1][what]);
            }
        }
        for (int what = 0; what <= 6; what++) {
            due("on day 0, " + what, road.state(0, 0, 0, what), dues[0][what]);
            due("on day 59, " + what, road.state(0, 59, 0, what), dues[3][what]);
        }
    }

    /** Gone as known by 0, waiting as known by 1: each as if the other had not been asked. */
    private static void statesAreOfWhatIsKnown() {
        CaravanRoad road = new CaravanRoad();
        road.inn(0, 60, 60);
        road.inn(1, 60, 60);
        road.room(0, 5);
        road.caravan(0, 1, 1, 0, 1, 0);
        Checks.read(road, "first 9; toll 1 3; bar 1 if day == 3;");
        road.shut(0, 1);
        road.shut(0, 2);
        int[][] dues = {{-1, -1, 0, 1, 3, 0, 0}, {1, -1, 0, 1, 3, 1, 9}, {0, 0, 0, 0, 0, 0, 9}};
        int[] barred = {-1, -1, 2};
        for (int n : new int[] {2, 0, 1, 2, 1, 0, 2}) {
            int day = n == 1 ? 2 : 3;
            for (int what = 0; what <= 6; what++) {
                due("state(0, " + day + ", " + n + ", " + what + ")", road.state(0, day, n, what), dues[n][what]);
            }
            due("barred by " + n, road.barred(0, day, n), barred[n]);
            due("crowded by " + n, road.crowded(1, 0, n), n == 2 ? 4 : n + 1);
            due("tolls by " + n, road.tolls(1, day, n), dues[n][4]);
        }
    }

    /** "1: its ROOM (NONE: outside, or no INN)", "5: 1 if it was outside on this evening, else 0". */
    private static void statesOfRoomsAndOutside() {
        CaravanRoad road = new CaravanRoad();
        road.inn(0, 60, 60);
        road.inn(0, 60, 60);
        road.room(0, 1);
        road.room(0, 1);
        road.room(0, 1);
        for (int c = 0; c < 4; c++) {
            road.caravan(c, 1, 1, 0, 1, 0);
        }
        for (int c = 0; c < 4; c++) {
            due("room of " + c, road.state(c, 0, 0, 1), c < 3 ? c : -1);
            due("outside " + c, road.state(c, 0, 0, 5), c < 3 ? 0 : 1);
            due("outside on the next day " + c, road.state(c, 1, 0, 5), 1);
            due("room when gone " + c, road.state(c, 2, 0, 1), -1);
            due("outside when gone " + c, road.state(c, 2, 0, 5), 0);
        }
    }

    /** "-1000000: no such ones." */
    private static void statesOfNoSuchOnes() {
        CaravanRoad road = sample();
        due("the least", road.state(0, 0, 0, 0), -1);
        due("the most", road.state(0, 59, 2, 6), 0);
        wrong("state of caravan", -1, 1, NO_SUCH, c -> road.state(c, 2, 0, 0));
        wrong("state on day", -1, 60, NO_SUCH, day -> road.state(0, day, 0, 0));
        wrong("state by", -1, 3, NO_SUCH, n -> road.state(0, 2, n, 0));
        wrong("state of what", -1, 7, NO_SUCH, what -> road.state(0, 2, 0, what));
        due("of a new road", new CaravanRoad().state(0, 0, 0, 0), NO_SUCH);
    }

    /** Nobody there: no beasts, all fodder, no caravans. */
    private static void housesOfAnEmptyInn() {
        CaravanRoad road = new CaravanRoad();
        road.inn(0, 60, 7);
        int[] dues = {0, 7, 0, 0};
        for (int what = 0; what <= 3; what++) {
            due("house(0, 0, 0, " + what + ")", road.house(0, 0, 0, what), dues[what]);
        }
        due("on the last day", road.house(0, 59, 0, 1), 200);
    }

    /** "0: BEASTS in STALLS, 1: FODDER that is left, 2: CARAVANS in ROOMS, 3: outside". */
    private static void housesOfAFullInn() {
        CaravanRoad road = new CaravanRoad();
        road.inn(0, 60, 60);
        road.inn(0, 60, 60);
        road.room(0, 20);
        for (int c = 0; c < 6; c++) {
            road.caravan(0, 12, 4, 0, 1, 0);
        }
        int[] dues = {60, 0, 5, 1};
        int[] next = {0, 48, 0, 6};
        for (int what = 0; what <= 3; what++) {
            due("house(0, 0, 0, " + what + ")", road.house(0, 0, 0, what), dues[what]);
            due("house(1, 1, 0, " + what + ")", road.house(1, 1, 0, what), next[what]);
            due("behind them", road.house(0, 1, 0, what), what == 1 ? 60 : 0);
            due("ahead of them", road.house(1, 0, 0, what), what == 1 ? 60 : 0);
        }
    }

    /** "-1000000: no such ones." */
    private static void housesOfNoSuchOnes() {
        CaravanRoad road = sample();
        wrong("house of inn", -1, 2, NO_SUCH, inn -> road.house(inn, 0, 0, 0));
        wrong("house on day", -1, 60, NO_SUCH, day -> road.house(0, day, 0, 1));
        wrong("house by", -1, 3, NO_SUCH, n -> road.house(0, 0, n, 2));
        wrong("house of what", -1, 4, NO_SUCH, what -> road.house(0, 0, 0, what));
        due("the last inn on the last day", road.house(1, 59, 2, 3), 0);
        due("of a new road", new CaravanRoad().house(0, 0, 0, 0), NO_SUCH);
    }

    /** "GUARDS in a ROOM of an INN on the evening of a DAY": from none to its SIZE. */
    private static void roomsEmptyAndFull() {
        CaravanRoad road = new CaravanRoad();
        road.inn(0, 60, 60);
        road.inn(0, 60, 60);
        road.room(0, 20);
        road.room(0, 3);
        road.room(0, 20);
        due("nobody on the road", road.full(0, 0, 0, 0), 0);
        int[][] caravans = {{0, 9}, {0, 9}, {0, 2}, {1, 3}, {0, 1}, {1, 1}};
        int[][] dues = {{9, 0, 0}, {18, 0, 0}, {20, 0, 0}, {20, 3, 0}, {20, 3, 1}, {20, 1, 4}};
        for (int c = 0; c < 6; c++) {
            road.caravan(caravans[c][0], 1, caravans[c][1], 0, 1, 1);
            for (int room = 0; room < 3; room++) {
                due("room " + room + " with " + (c + 1), road.full(0, room, 1, 0), dues[c][room]);
            }
        }
        for (int room = 0; room < 3; room++) {
            due("room " + room + " ahead", road.full(0, room, 0, 0), 0);
            due("room " + room + " behind", road.full(0, room, 2, 0), 0);
        }
    }

    /** "-1000000: no such ones." */
    private static void roomsOfNoSuchOnes() {
        CaravanRoad road = sample();
        due("the room", road.full(1, 0, 3, 2), 4);
        due("an inn without rooms", road.full(0, 0, 0, 0), NO_SUCH);
        road.room(0, 1);
        wrong("full of inn", -1, 2, NO_SUCH, inn -> road.full(inn, 0, 0, 0));
        wrong("full of room", -1, 1, NO_SUCH, room -> road.full(1, room, 0, 0));
        wrong("full on day", -1, 60, NO_SUCH, day -> road.full(1, 0, day, 0));
        wrong("full by", -1, 3, NO_SUCH, n -> road.full(1, 0, 0, n));
        due("of a new road", new CaravanRoad().full(0, 0, 0, 0), NO_SUCH);
    }

    /** "NONE: it is not by DAY 59". */
    private static void comesByTheLastDay() {
        CaravanRoad road = new CaravanRoad();
        for (int i = 0; i < 8; i++) {
            road.inn(0, 60, 60);
        }
        road.caravan(0, 1, 1, 0, 7, 52);
        road.caravan(0, 1, 1, 7, 0, 53);
        road.caravan(0, 1, 1, 3, 4, 58);
        road.caravan(0, 1, 1, 4, 3, 59);
        road.caravan(0, 1, 1, 4, 3, 0);
        int[] dues = {59, -1, 59, -1, 1};
        for (int c = 0; c < dues.length; c++) {
            due("comes of " + c, road.comes(c, 0), dues[c]);
        }
        due("at its goal on day 59", road.state(0, 59, 0, 0), 7);
        due("one inn ahead of it", road.state(1, 59, 0, 0), 1);
    }

    /** "NONE: .. or no such ones." */
    private static void comesOfNoSuchOnes() {
        CaravanRoad road = sample();
        due("comes", road.comes(0, 2), 3);
        wrong("comes of caravan", -1, 1, -1, c -> road.comes(c, 0));
        wrong("comes by", -1, 3, -1, n -> road.comes(0, n));
        due("of a new road", new CaravanRoad().comes(0, 0), -1);
    }

    /** "The first RULE that holds of a CARAVAN on the morning of a DAY". */
    private static void theFirstRuleThatBars() {
        CaravanRoad road = sample();
        Checks.read(road, "bar 1 if day == 3;");
        due("rule 0", road.barred(0, 3, 0), 0);
        Checks.read(road, "bar 1 if day == 4; bar 1 if day < 5; bar 1 if day < 6;");
        due("the second", road.barred(0, 3, 0), 1);
        due("the first of three", road.barred(0, 4, 0), 0);
        due("the third", road.barred(0, 5, 0), 2);
        Checks.read(road, "first 1;".repeat(19) + "bar 1 if day == 3;");
        due("rule 19", road.barred(0, 3, 0), 19);
        Checks.read(road, "bar 1 if 1 == 1;");
        due("on the last day", road.barred(0, 59, 0), 0);
    }

    /** "NONE: none". */
    private static void barredByNone() {
        CaravanRoad road = sample();
        due("without rules", road.barred(0, 3, 0), -1);
        String[] texts = {"bar 0 if 1 == 1;", "bar 1 if 1 == 2;", "bar 1 if day == 2;", "bar 1 if inn == 0;",
            "toll 1 1; first 1;"};
        for (String text : texts) {
            Checks.read(road, text);
            due("barred by " + text, road.barred(0, 3, 0), -1);
        }
        // A road that is shut is no rule; but a rule may hold on a road that is shut.
        CaravanRoad shut = sample();
        shut.shut(0, 3);
        due("on a shut road", shut.barred(0, 3, 3), -1);
        Checks.read(shut, "bar 1 if day == 3;");
        due("on a shut road with a bar", shut.barred(0, 3, 3), 0);
    }

    /** "it does not go on (it was at no INN in the evening ahead, is at its goal)". */
    private static void barredWhenItDoesNotGoOn() {
        CaravanRoad road = sample();
        Checks.read(road, "bar 1 if day != 3; bar 0 if 1 == 1;");
        for (int day = 0; day <= 5; day++) {
            due("barred on day " + day, road.barred(0, day, 0), -1);
        }
        due("it came", road.comes(0, 0), 3);
        CaravanRoad first = new CaravanRoad();
        first.inn(0, 60, 60);
        first.inn(0, 60, 60);
        first.caravan(0, 1, 1, 0, 1, 0);
        Checks.read(first, "bar 0 if 1 == 1;");
        due("on day 0", first.barred(0, 0, 0), -1);
        due("on day 1", first.barred(0, 1, 0), 0);
    }

    /** "NONE: .. or no such ones." */
    private static void barredOfNoSuchOnes() {
        CaravanRoad road = sample();
        Checks.read(road, "bar 1 if 1 == 1;");
        due("barred", road.barred(0, 59, 2), 0);
        wrong("barred of caravan", -1, 1, -1, c -> road.barred(c, 3, 0));
        wrong("barred on day", -1, 60, -1, day -> road.barred(0, day, 0));
        wrong("barred by", -1, 3, -1, n -> road.barred(0, 3, n));
        due("of a new road", new CaravanRoad().barred(0, 0, 0), -1);
    }

    /** "TOLLS that a LORD gets by the evening of a DAY". */
    private static void tollsByTheEvening() {
        CaravanRoad road = new CaravanRoad();
        road.inn(0, 60, 60);
        road.inn(4, 60, 60);
        road.caravan(0, 1, 1, 0, 1, 0);
        road.caravan(0, 1, 1, 0, 1, 58);
        road.caravan(0, 1, 1, 1, 0, 0);
        Checks.read(road, "toll 0 5; toll 4 7;");
        int[][] dues = {{0, 0, 0}, {1, 5, 7}, {2, 5, 7}, {58, 5, 7}, {59, 5, 14}};
        for (int[] d : dues) {
            due("lord 0 by day " + d[0], road.tolls(0, d[0], 0), d[1]);
            due("lord 4 by day " + d[0], road.tolls(4, d[0], 0), d[2]);
            due("lord 2 by day " + d[0], road.tolls(2, d[0], 0), 0);
        }
    }

    /** "0 for others." */
    private static void tollsOfOthers() {
        CaravanRoad road = sample();
        Checks.read(road, "toll 1 7;");
        due("tolls", road.tolls(1, 59, 2), 7);
        wrong("tolls of lord", -1, 5, 0, lord -> road.tolls(lord, 59, 0));
        wrong("tolls on day", -1, 60, 0, day -> road.tolls(1, day, 0));
        wrong("tolls by", -1, 3, 0, n -> road.tolls(1, 59, n));
        due("of a new road", new CaravanRoad().tolls(0, 0, 0), 0);
    }

    /** "The first DAY from a (0 .. 59) on": a itself counts. */
    private static void crowdedFromADayOn() {
        CaravanRoad road = new CaravanRoad();
        road.inn(0, 60, 60);
        road.inn(0, 60, 60);
        road.room(1, 20);
        for (int begin : new int[] {0, 7, 8, 59}) {
            road.caravan(0, 1, 1, 0, 1, begin);
        }
        int[][] dues = {{0, 0}, {1, 7}, {6, 7}, {7, 7}, {8, 8}, {9, 59}, {58, 59}, {59, 59}};
        for (int[] d : dues) {
            due("from " + d[0] + " on", road.crowded(0, d[0], 0), d[1]);
        }
    }

    /** "NONE: none". */
    private static void crowdedByNobody() {
        CaravanRoad road = sample();
        due("outside at inn 0", road.crowded(0, 0, 0), 2);
        due("no more behind it", road.crowded(0, 3, 0), -1);
        due("in a room", road.crowded(1, 0, 0), -1);
        CaravanRoad empty = new CaravanRoad();
        empty.inn(0, 0, 0);
        due("nobody on the road", empty.crowded(0, 0, 0), -1);
    }

    /** "NONE: none, no such ones." */
    private static void crowdedOfNoSuchOnes() {
        CaravanRoad road = sample();
        road.caravan(0, 1, 1, 0, 1, 59);
        due("crowded", road.crowded(0, 59, 2), 59);
        wrong("crowded at inn", -1, 2, -1, inn -> road.crowded(inn, 0, 0));
        wrong("crowded from", -1, 60, -1, a -> road.crowded(0, a, 0));
        wrong("crowded by", -1, 3, -1, n -> road.crowded(0, 0, n));
        due("of a new road", new CaravanRoad().crowded(0, 0, 0), -1);
    }

    /** Nothing but the answer is promised of a question, a wrong one too. */
    private static void questionsChangeNothing() {
        CaravanRoad road = sample();
        Checks.read(road, "first 2; toll 1 3; bar 1 if day == 3;");
        String ahead = Checks.picture(road);
        CHECKS.same("the same questions", Checks.picture(road), ahead);
        for (int x : new int[] {-1, 0, 1, 60, 1000000, Integer.MIN_VALUE, Integer.MAX_VALUE}) {
            road.state(x, x, x, x);
            road.house(x, x, x, x);
            road.full(x, x, x, x);
            road.comes(x, x);
            road.barred(x, x, x);
            road.could(x, x);
            road.sealed(x, x, x);
            road.tolls(x, x, x);
            road.crowded(x, x, x);
            road.count(x);
            road.place();
        }
        CHECKS.same("wrong questions", Checks.picture(road), ahead);
    }

    /**
     * Inn 0 without rooms and fodder, inn 1 with a room: a caravan is at inn 0 on day 2, outside, and at
     * inn 1, its goal, on day 3. Its bale was looked at twice.
     */
    private static CaravanRoad sample() {
        CaravanRoad road = new CaravanRoad();
        road.inn(0, 60, 0);
        road.inn(1, 60, 0);
        road.room(1, 5);
        road.caravan(2, 6, 4, 0, 1, 2);
        road.bale(0);
        road.look(0, 1, true);
        road.look(0, 9, false);
        return road;
    }

    /** An argument that is too small, too large, or one of the ints' ends. */
    private static void wrong(String call, int tooSmall, int tooLarge, int want, IntUnaryOperator question) {
        for (int x : new int[] {tooSmall, tooLarge, tooSmall - 1, tooLarge + 1, Integer.MIN_VALUE,
            Integer.MAX_VALUE}) {
            due(call + " " + x, question.applyAsInt(x), want);
        }
        due(call + " " + (tooSmall + 1) + " is there", question.applyAsInt(tooSmall + 1) == NO_SUCH ? 1 : 0, 0);
        due(call + " " + (tooLarge - 1) + " is there", question.applyAsInt(tooLarge - 1) == NO_SUCH ? 1 : 0, 0);
    }

    private static void due(String call, long got, long want) {
        CHECKS.due(call, got, want);
    }
}
