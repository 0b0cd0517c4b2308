/** Promises 12 to 16, 19 and 20: the road day by day. */
public final class RoadTest {
    private static final int INN = 0;
    private static final int ROOM = 1;
    private static final int HUNGRY = 2;
    private static final int LATE = 3;
    private static final int TOLLS = 4;
    private static final int OUTSIDE = 5;
    private static final int FIRST = 6;
    private static final Checks CHECKS = new Checks();

    public static void main(String[] args) {
        goesAndIsGone();
        goesDownTheRow();
        comesOnTheLastDay();
        waitsForShutRoads();
        waitsForLords();
        isBarredWhateverElseHoldsIt();
        staysWhenTooHungry();
        paysOnceAPassage();
        paysByTheFirstTollThatHolds();
        tollsWrap();
        goesFirstByTheRules();
        roomsKeepKindsApart();
        roomsAreLaidForThoseWhoComeLater();
        roomsAreTheLeast();
        stallsAreShared();
        fodderIsTakenInOrder();
        fodderIsKept();
        housesAreCounted();
        crowdsAreFound();
        whatIsToldLaterCountsForAllDays();
        CHECKS.end();
    }

    /** Inns with lord 0, stalls and fodder enough, one room of 20 each. */
    private static CaravanRoad wideRoad(int inns) {
        CaravanRoad road = new CaravanRoad();
        for (int i = 0; i < inns; i++) {
            road.inn(0, 60, 60);
            road.room(i, 20);
        }
        return road;
    }

    private static void goesAndIsGone() {
        CaravanRoad road = wideRoad(3);
        road.caravan(0, 5, 2, 0, 2, 3);
        states(road, INN, 0, 0, -1, -1, -1, 0, 1, 2, -1, -1);
        states(road, ROOM, 0, 0, -1, -1, -1, 0, 0, 0, -1, -1);
        states(road, OUTSIDE, 0, 0, 0, 0, 0, 0, 0, 0, 0, 0);
        due("comes", road.comes(0, 0), 5);
        due("beasts at the goal", road.house(2, 5, 0, 0), 5);
        due("beasts when gone", road.house(2, 6, 0, 0), 0);
        due("guards at the goal", road.full(2, 0, 5, 0), 2);
        due("guards when gone", road.full(2, 0, 6, 0), 0);
    }

    private static void goesDownTheRow() {
        CaravanRoad road = wideRoad(8);
        road.caravan(0, 5, 2, 7, 0, 0);
        road.caravan(0, 5, 2, 5, 3, 1);
        states(road, INN, 0, 0, 7, 6, 5, 4, 3, 2, 1, 0, -1);
        states(road, INN, 1, 0, -1, 5, 4, 3, -1);
        due("comes 0", road.comes(0, 0), 7);
        due("comes 1", road.comes(1, 0), 3);
    }

    private static void comesOnTheLastDay() {
        CaravanRoad road = wideRoad(3);
        road.caravan(0, 1, 1, 0, 1, 58);
        road.caravan(0, 1, 1, 0, 1, 59);
        road.caravan(0, 1, 1, 0, 2, 58);
        due("comes on day 59", road.comes(0, 0), 59);
        due("comes behind day 59", road.comes(1, 0), -1);
        due("two inns behind", road.comes(2, 0), -1);
        due("state(1, 59)", road.state(1, 59, 0, INN), 0);
    }

    private static void waitsForShutRoads() {
        CaravanRoad road = wideRoad(4);
        road.caravan(0, 1, 1, 0, 3, 0);
        road.caravan(0, 1, 1, 3, 0, 0);
        road.shut(1, 2);
        road.shut(0, 1);
        road.shut(0, 1);
        road.shut(2, 1);
        states(road, INN, 0, 0, 0, 1, 2, 3, -1);
        states(road, INN, 1, 0, 3, 2, 1, 0, -1);
        states(road, INN, 0, 1, 0, 1, 1, 2, 3, -1);
        states(road, INN, 1, 1, 3, 2, 2, 1, 0, -1);
        states(road, INN, 0, 2, 0, 0, 1, 2, 3, -1);
        states(road, INN, 1, 3, 3, 2, 2, 1, 0, -1);
        states(road, INN, 1, 4, 3, 3, 2, 1, 0, -1);
        // The same is known again as if nothing had come behind.
        states(road, INN, 0, 0, 0, 1, 2, 3, -1);
        due("comes by 0", road.comes(0, 0), 3);
        due("comes by 1", road.comes(0, 1), 4);
        due("comes by 4", road.comes(0, 4), 4);
    }

    private static void waitsForLords() {
        CaravanRoad road = new CaravanRoad();
        road.inn(0, 60, 60);
        road.inn(1, 60, 60);
        road.inn(1, 60, 60);
        road.caravan(0, 1, 1, 0, 2, 0);
        Checks.read(road, "toll 1 5; first 1; bar 0 if 1 == 1; bar 1 if day < 2; bar 1 if day < 3;"
                + "bar 1 if inn == 2 and day <= 4;");
        states(road, INN, 0, 0, 0, 0, 0, 1, 1, 2, -1);
        int[] rules = {-1, 3, 4, -1, 5, -1, -1};
        for (int day = 0; day < rules.length; day++) {
            due("barred on day " + day, road.barred(0, day, 0), rules[day]);
        }
        due("tolls", road.state(0, 9, 0, TOLLS), 5);
    }

    private static void isBarredWhateverElseHoldsIt() {
        CaravanRoad road = new CaravanRoad();
        road.inn(0, 0, 0);
        road.inn(0, 0, 0);
        road.caravan(0, 1, 1, 0, 1, 0);
        road.shut(0, 1);
        Checks.read(road, "bar 0 if 1 == 1;");
        due("barred on day 0", road.barred(0, 0, 1), -1);
        due("barred on a shut road", road.barred(0, 1, 1), 0);
        due("barred when hungry", road.barred(0, 9, 1), 0);
        Checks.read(road, "bar 0 if hungry == 2; bar 0 if late == 5; bar 0 if inn == 0;");
        due("barred by hungry", road.barred(0, 2, 1), 0);
        due("barred by late", road.barred(0, 5, 1), 1);
        due("not by its own inn", road.barred(0, 6, 1), -1);
    }

    private static void staysWhenTooHungry() {
        CaravanRoad road = new CaravanRoad();
        for (int i = 0; i < 5; i++) {
            road.inn(0, 60, i == 2 ? 1 : 0);
        }
        road.caravan(0, 9, 1, 0, 4, 0);
        // At inn 2 there are 3 on day 2, 9 on day 8.
        states(road, INN, 0, 0, 0, 1, 2, 2, 2, 2, 2, 2, 2, 3, 4, -1);
        states(road, HUNGRY, 0, 0, 1, 2, 3, 4, 5, 6, 7, 8, 0, 1, 2, 2, 2);
        due("comes", road.comes(0, 0), 10);
    }

    private static void paysOnceAPassage() {
        CaravanRoad road = new CaravanRoad();
        int[] lords = {2, 2, 3, 3, 2, 4};
        for (int lord : lords) {
            road.inn(lord, 60, 60);
        }
        road.caravan(0, 7, 1, 0, 5, 1);
        road.caravan(0, 7, 1, 5, 0, 0);
        Checks.read(road, "toll 2 100 + inn; toll 3 200 + inn + 1000 * day; toll 4 1;");
        states(road, TOLLS, 0, 0, 0, 0, 0, 3202, 3202, 3306, 3307, 3307, 3307);
        // Down the row: lord 2 at inn 4, lord 3 at inn 3, lord 2 again at inn 1.
        states(road, TOLLS, 1, 0, 0, 104, 2307, 2307, 2408, 2408, 2408);
        due("lord 2 on day 0", road.tolls(2, 0, 0), 0);
        due("lord 2 on day 1", road.tolls(2, 1, 0), 104);
        due("lord 2 on day 4", road.tolls(2, 4, 0), 205);
        due("lord 2 on day 59", road.tolls(2, 59, 0), 309);
        due("lord 3 on day 3", road.tolls(3, 3, 0), 5405);
        due("lord 4 on day 59", road.tolls(4, 59, 0), 1);
        due("lord 0 on day 59", road.tolls(0, 59, 0), 0);
    }

    private static void paysByTheFirstTollThatHolds() {
        CaravanRoad road = new CaravanRoad();
        road.inn(0, 60, 60);
        road.inn(1, 60, 60);
        for (int kind = 0; kind < 4; kind++) {
            road.caravan(kind, 2, 1, 0, 1, 0);
        }
        Checks.read(road, "toll 0 9; toll 1 5 if kind == 0; toll 1 0 - 5 if kind == 1;"
                + "toll 1 0 if kind == 2; toll 1 8;");
        int[] dues = {5, 0, 0, 8};
        for (int kind = 0; kind < 4; kind++) {
            due("toll of kind " + kind, road.state(kind, 1, 0, TOLLS), dues[kind]);
        }
        due("lord 1", road.tolls(1, 1, 0), 13);
        Checks.read(road, "toll 1 5 if kind == 9;");
        due("no toll that holds", road.tolls(1, 59, 0), 0);
    }

    private static void tollsWrap() {
        CaravanRoad road = new CaravanRoad();
        for (int i = 0; i < 4; i++) {
            road.inn(i % 2, 60, 60);
        }
        road.caravan(0, 1, 1, 0, 3, 0);
        Checks.read(road, "toll 0 9999*9999*21; toll 1 9999*9999*21;");
        int toll = 9999 * 9999 * 21;
        states(road, TOLLS, 0, 0, 0, toll, toll + toll, toll + toll + toll, toll + toll + toll);
        due("lord 1", road.tolls(1, 3, 0), toll + toll);
    }

    private static void goesFirstByTheRules() {
        CaravanRoad road = new CaravanRoad();
        road.inn(0, 60, 60);
        road.inn(0, 60, 60);
        road.room(0, 5);
        road.caravan(0, 1, 3, 0, 1, 0);
        road.caravan(0, 2, 3, 0, 1, 0);
        road.caravan(0, 3, 3, 0, 1, 0);
        String[] texts = {"", "first 5;", "first beasts;", "first 0 - beasts;", "first 1 if kind == 1;",
            "first 9 if beasts == 2; first 8;", "first 0 - 1 if beasts < 2;",
            "toll 0 9 if beasts == 3;", "first 9999*9999*22 if beasts == 1;"};
        int[] inside = {0, 0, 2, 0, 0, 1, 1, 0, 1};
        for (int i = 0; i < texts.length; i++) {
            Checks.read(road, texts[i]);
            for (int c = 0; c < 3; c++) {
                due("room of " + c + " by " + texts[i], road.state(c, 0, 0, ROOM), c == inside[i] ? 0 : -1);
            }
        }
        due("FIRST that wraps", road.state(0, 0, 0, FIRST), 9999 * 9999 * 22);
    }

    private static void roomsKeepKindsApart() {
        CaravanRoad road = new CaravanRoad();
        road.inn(0, 60, 60);
        road.inn(0, 60, 60);
        road.room(0, 9);
        road.room(0, 9);
        road.caravan(0, 1, 2, 0, 1, 0);
        road.caravan(1, 1, 2, 0, 1, 0);
        road.caravan(2, 1, 2, 0, 1, 0);
        road.caravan(1, 1, 7, 0, 1, 0);
        road.caravan(0, 1, 8, 0, 1, 0);
        int[] rooms = {0, 1, -1, 1, -1};
        for (int c = 0; c < rooms.length; c++) {
            due("room of " + c, road.state(c, 0, 0, ROOM), rooms[c]);
            due("outside " + c, road.state(c, 0, 0, OUTSIDE), rooms[c] < 0 ? 1 : 0);
        }
        due("full(0, 0)", road.full(0, 0, 0, 0), 2);
        due("full(0, 1)", road.full(0, 1, 0, 0), 9);
    }

    private static void roomsAreLaidForThoseWhoComeLater() {
        CaravanRoad road = new CaravanRoad();
        road.inn(0, 60, 60);
        road.inn(0, 60, 60);
        road.room(0, 5);
        road.room(0, 3);
        road.caravan(0, 1, 3, 0, 1, 0);
        due("alone", road.state(0, 0, 0, ROOM), 0);
        road.caravan(1, 1, 5, 0, 1, 0);
        due("the first gives way", road.state(0, 0, 0, ROOM), 1);
        due("the second", road.state(1, 0, 0, ROOM), 0);
        road.room(0, 2);
        road.caravan(2, 1, 2, 0, 1, 0);
        road.caravan(2, 1, 1, 0, 1, 0);
        due("the third", road.state(2, 0, 0, ROOM), 2);
        due("the fourth", road.state(3, 0, 0, ROOM), -1);
    }

    private static void roomsAreTheLeast() {
        CaravanRoad road = new CaravanRoad();
        road.inn(0, 60, 60);
        road.inn(0, 60, 60);
        road.room(0, 9);
        road.room(0, 4);
        road.room(0, 4);
        int[] guards = {4, 4, 5, 2, 2};
        for (int g : guards) {
            road.caravan(0, 1, g, 0, 1, 0);
        }
        // The first in the least room: then 5 more there, the second in the next, the last two behind.
        int[] rooms = {0, 1, 0, 2, 2};
        for (int c = 0; c < rooms.length; c++) {
            due("room of " + c, road.state(c, 0, 0, ROOM), rooms[c]);
        }
        Checks.read(road, "first 9 - guards;");
        int[] byGuards = {1, 2, 0, 0, 0};
        for (int c = 0; c < rooms.length; c++) {
            due("room of " + c + " by guards", road.state(c, 0, 0, ROOM), byGuards[c]);
        }
    }

    private static void stallsAreShared() {
        CaravanRoad road = new CaravanRoad();
        road.inn(0, 10, 60);
        road.inn(0, 0, 60);
        road.room(0, 20);
        road.room(0, 20);
        road.room(1, 20);
        road.caravan(0, 6, 1, 0, 1, 0);
        road.caravan(1, 5, 1, 0, 1, 0);
        road.caravan(1, 4, 1, 0, 1, 0);
        int[] rooms = {0, -1, 1};
        for (int c = 0; c < rooms.length; c++) {
            due("room of " + c, road.state(c, 0, 0, ROOM), rooms[c]);
            due("no stalls for " + c, road.state(c, 1, 0, ROOM), -1);
            due("late " + c, road.state(c, 1, 0, LATE), rooms[c] < 0 ? 2 : 1);
            due("late when gone " + c, road.state(c, 50, 0, LATE), rooms[c] < 0 ? 2 : 1);
        }
    }

    private static void fodderIsTakenInOrder() {
        CaravanRoad road = new CaravanRoad();
        road.inn(0, 60, 10);
        road.inn(0, 60, 60);
        road.room(0, 4);
        road.caravan(0, 8, 5, 0, 1, 0);
        road.caravan(0, 3, 1, 0, 1, 0);
        road.caravan(0, 2, 1, 0, 1, 0);
        // Outside, but the first in order: it takes its fodder ahead of those in rooms.
        due("outside", road.state(0, 0, 0, ROOM), -1);
        due("hungry 0", road.state(0, 0, 0, HUNGRY), 0);
        due("hungry 1", road.state(1, 0, 0, HUNGRY), 1);
        due("hungry 2", road.state(2, 0, 0, HUNGRY), 0);
        due("left", road.house(0, 0, 0, 1), 0);
        Checks.read(road, "first 0 - beasts;");
        due("left", road.house(0, 0, 0, 1), 5);
        due("hungry 0", road.state(0, 0, 0, HUNGRY), 1);
        due("hungry 0 at the goal", road.state(0, 1, 0, HUNGRY), 0);
    }

    private static void fodderIsKept() {
        CaravanRoad road = new CaravanRoad();
        road.inn(0, 0, 60);
        road.inn(0, 0, 1);
        road.caravan(0, 30, 1, 0, 1, 4);
        int[] left = {60, 120, 180, 200, 170, 200, 200};
        for (int day = 0; day < left.length; day++) {
            due("left on day " + day, road.house(0, day, 0, 1), left[day]);
        }
        due("left at inn 1", road.house(1, 59, 0, 1), 60);
    }

    private static void housesAreCounted() {
        CaravanRoad road = new CaravanRoad();
        road.inn(0, 9, 0);
        road.inn(0, 60, 0);
        road.room(0, 9);
        road.caravan(0, 4, 2, 0, 1, 0);
        road.caravan(1, 5, 2, 0, 1, 0);
        road.caravan(0, 5, 3, 0, 1, 0);
        road.caravan(0, 1, 1, 0, 1, 1);
        road.shut(0, 1);
        dueHouse(road, 0, 0, 9, 0, 2, 1);
        dueHouse(road, 0, 1, 9, 0, 2, 2);
        dueHouse(road, 1, 1, 0, 0, 0, 0);
        dueHouse(road, 1, 2, 0, 0, 0, 4);
    }

    private static void dueHouse(CaravanRoad road, int inn, int day, int beasts, int fodder, int in, int out) {
        int n = road.count(3);
        due("beasts at " + inn + " on " + day, road.house(inn, day, n, 0), beasts);
        due("fodder at " + inn + " on " + day, road.house(inn, day, n, 1), fodder);
        due("in rooms at " + inn + " on " + day, road.house(inn, day, n, 2), in);
        due("outside at " + inn + " on " + day, road.house(inn, day, n, 3), out);
    }

    private static void crowdsAreFound() {
        CaravanRoad road = wideRoad(2);
        road.inn(0, 60, 60);
        road.caravan(0, 1, 1, 0, 2, 0);
        road.caravan(0, 1, 1, 1, 2, 30);
        road.caravan(0, 1, 1, 1, 2, 58);
        due("a wide inn", road.crowded(0, 0, 0), -1);
        due("from 0", road.crowded(2, 0, 0), 2);
        due("from 2", road.crowded(2, 2, 0), 2);
        due("from 3", road.crowded(2, 3, 0), 31);
        due("from 32", road.crowded(2, 32, 0), 59);
        due("from 59", road.crowded(2, 59, 0), 59);
        road.shut(1, 59);
        due("from 59 as known by 1", road.crowded(2, 59, 1), -1);
    }

    private static void whatIsToldLaterCountsForAllDays() {
        CaravanRoad road = new CaravanRoad();
        road.inn(0, 60, 0);
        road.inn(0, 60, 0);
        road.caravan(0, 3, 2, 0, 1, 0);
        due("without a room", road.state(0, 0, 0, ROOM), -1);
        road.room(0, 2);
        due("with a room", road.state(0, 0, 0, ROOM), 0);
        road.caravan(0, 3, 2, 0, 1, 0);
        Checks.read(road, "first bales;");
        due("without a bale", road.state(1, 0, 0, ROOM), -1);
        road.bale(1);
        due("with a bale", road.state(1, 0, 0, ROOM), 0);
        due("the other one", road.state(0, 0, 0, ROOM), -1);
        Checks.read(road, "");
        due("without rules", road.state(0, 0, 0, ROOM), 0);
        road.inn(3, 1, 7);
        due("a new inn", road.house(2, 59, 0, 1), 200);
    }

    /** What a caravan's state is from day 0 on. */
    private static void states(CaravanRoad road, int what, int caravan, int n, int... dues) {
        for (int day = 0; day < dues.length; day++) {
            due("state(" + caravan + ", " + day + ", " + n + ", " + what + ")",
                    road.state(caravan, day, n, what), dues[day]);
        }
    }

    private static void due(String call, long got, long want) {
        CHECKS.due(call, got, want);
    }
}
