import java.util.Arrays;

/** Terms III, a sentence of the document a test: the edges of MORNING, EVENING and FODDER. */
public final class EdgeRoadTest {
    private static final int INN = 0;
    private static final int ROOM = 1;
    private static final int HUNGRY = 2;
    private static final int LATE = 3;
    private static final int TOLLS = 4;
    private static final int FIRST = 6;
    // The greatest int, written with ints of four digits.
    private static final String MOST = "(9999*9999*21+4790*9999+8416)";
    private static final Checks CHECKS = new Checks();

    public static void main(String[] args) {
        atAnInnInTheEveningAhead();
        notAtItsGoal();
        theNextInnOnItsWay();
        shutOnThisDay();
        barsOfThatInnsLord();
        hungryBelowThree();
        hungryOrNotItStays();
        enteringTheLandOfALord();
        theFirstTollThatHolds();
        tollsAboveZero();
        tollsWrap();
        theGreatestFirstAhead();
        firstsOfTheFirstRuleThatHolds();
        firstsAsTheEveningBegins();
        guardsAtMostTheSize();
        roomsOfOneKind();
        beastsAtMostTheStalls();
        theFirstIsInARoomIfInAny();
        theLeastRooms();
        innsForThemselves();
        lateOnceMore();
        fodderThatIsEnough();
        fodderInOrder();
        twoHundredAtMost();
        goneBehindItsGoal();
        CHECKS.end();
    }

    /** "each CARAVAN that was at an INN in the evening ahead"; "CARAVANS that begin on this DAY". */
    private static void atAnInnInTheEveningAhead() {
        for (int begin : new int[] {0, 1, 30, 58, 59}) {
            CaravanRoad road = road(0, 0, 0);
            road.caravan(0, 1, 1, 0, 2, begin);
            for (int day = Math.max(0, begin - 2); day <= Math.min(59, begin + 3); day++) {
                int inn = day < begin || day > begin + 2 ? -1 : day - begin;
                due("begin " + begin + ", inn on " + day, road.state(0, day, 0, INN), inn);
            }
            Checks.read(road, "bar 0 if 1 == 1;");
            due("not barred when it begins", road.barred(0, begin, 0), -1);
            due("at its inn all days", road.state(0, 59, 0, INN), 0);
        }
    }

    /** "and is not at its goal": it neither goes on nor is barred there. */
    private static void notAtItsGoal() {
        CaravanRoad road = road(0, 0, 0);
        road.caravan(0, 1, 1, 0, 1, 0);
        road.caravan(0, 1, 1, 1, 0, 0);
        Checks.read(road, "bar 0 if day == 2;");
        for (int c = 0; c < 2; c++) {
            due("at its goal", road.state(c, 1, 0, INN), 1 - c);
            due("behind it", road.state(c, 2, 0, INN), -1);
            due("not barred", road.barred(c, 2, 0), -1);
            due("comes", road.comes(c, 0), 1);
        }
    }

    /** "goes to the next INN on its way": one INN a day, up and down the row, from end to end. */
    private static void theNextInnOnItsWay() {
        CaravanRoad road = road(0, 1, 2, 3, 4, 0, 1, 2);
        road.caravan(0, 1, 1, 0, 7, 0);
        road.caravan(0, 1, 1, 7, 0, 0);
        for (int day = 0; day <= 7; day++) {
            due("up on day " + day, road.state(0, day, 0, INN), day);
            due("down on day " + day, road.state(1, day, 0, INN), 7 - day);
        }
        due("gone", road.state(0, 8, 0, INN), -1);
        due("gone", road.state(1, 8, 0, INN), -1);
    }

    /** "if the road there is not SHUT on this DAY": this road, this day, both ways. */
    private static void shutOnThisDay() {
        due("not shut", comesWith(1, 3, 0), 2);
        due("shut on the day it begins", comesWith(1, 3, 0, 1, 0), 2);
        due("shut when it would go", comesWith(1, 3, 0, 1, 1), 3);
        due("shut when it has gone", comesWith(1, 3, 0, 1, 2), 2);
        due("the road behind it shut", comesWith(1, 3, 0, 0, 1), 2);
        due("the road after next shut", comesWith(1, 3, 0, 2, 1), 2);
        due("the next road shut in its turn", comesWith(1, 3, 0, 2, 2), 3);
        due("shut on two days", comesWith(1, 3, 0, 1, 2, 1, 1), 4);
        due("down, not shut", comesWith(2, 0, 0), 2);
        due("down, shut", comesWith(2, 0, 0, 1, 1), 3);
        due("down, the road behind it shut", comesWith(2, 0, 0, 2, 1), 2);
        due("down, the next road shut", comesWith(2, 0, 0, 0, 2), 3);
        due("down, the next road shut too early", comesWith(2, 0, 0, 0, 1), 2);
        due("on the last day", comesWith(0, 1, 58), 59);
        due("shut on the last day", comesWith(0, 1, 58, 0, 59), -1);
        CaravanRoad road = road(0, 0);
        road.caravan(0, 1, 1, 0, 1, 0);
        for (int day = 0; day < 60; day++) {
            road.shut(0, day);
        }
        due("shut on all days", road.comes(0, 60), -1);
        due("but for the last", road.comes(0, 59), 59);
        due("where it waits", road.state(0, 59, 60, INN), 0);
    }

    /** "no bar RULE of that INN's LORD holds". */
    private static void barsOfThatInnsLord() {
        due("no bar", comesBy("", 0, 4), 1);
        due("a bar of that lord", comesBy("bar 4 if 1 == 1;", 0, 4), -1);
        due("a bar that does not hold", comesBy("bar 4 if 1 == 2;", 0, 4), 1);
        due("a bar of its own lord", comesBy("bar 0 if 1 == 1;", 0, 4), 1);
        due("a bar of lord 0", comesBy("bar 0 if 1 == 1;", 4, 0), -1);
        due("a bar within one land", comesBy("bar 3 if 1 == 1;", 3, 3), -1);
        due("a second bar", comesBy("bar 4 if 1 == 2; bar 4 if 1 == 1;", 0, 4), -1);
        due("on day 0", comesBy("bar 4 if day == 0;", 0, 4), 1);
        due("on day 1", comesBy("bar 4 if day == 1;", 0, 4), 2);
        due("up to day 58", comesBy("bar 4 if day < 59;", 0, 4), 59);
        due("up to day 59", comesBy("bar 4 if day <= 59;", 0, 4), -1);
        due("by the inn to which it would go", comesBy("bar 4 if inn == 1;", 0, 4), -1);
        due("not by the inn where it is", comesBy("bar 4 if inn == 0;", 0, 4), 1);
        due("first and toll do not bar", comesBy("first 1; toll 4 1;", 0, 4), 1);
    }

    /** "and its HUNGRY is below 3": with 2 it goes, with 3 it stays, and eats when it can. */
    private static void hungryBelowThree() {
        CaravanRoad road = new CaravanRoad();
        for (int i = 0; i < 5; i++) {
            road.inn(0, 60, i == 2 ? 1 : 0);
        }
        road.caravan(0, 3, 1, 0, 4, 0);
        states(road, HUNGRY, 0, 1, 2, 0, 1, 2, 2);
        states(road, INN, 0, 0, 1, 2, 3, 4, -1);
        CaravanRoad later = new CaravanRoad();
        for (int i = 0; i < 5; i++) {
            later.inn(0, 60, i == 2 ? 1 : 0);
        }
        later.caravan(0, 4, 1, 0, 4, 0);
        states(later, HUNGRY, 0, 1, 2, 3, 0, 1, 2, 2);
        states(later, INN, 0, 0, 1, 2, 2, 3, 4, -1);
        CaravanRoad never = new CaravanRoad();
        for (int i = 0; i < 5; i++) {
            never.inn(0, 60, 0);
        }
        never.caravan(0, 1, 1, 0, 4, 0);
        states(never, INN, 0, 0, 1, 2, 2, 2);
        due("hungry on the last day", never.state(0, 59, 0, HUNGRY), 60);
        due("never", never.comes(0, 0), -1);
    }

    /** "(else it stays, HUNGRY or not)": in front of a shut road it eats, or is hungry once more. */
    private static void hungryOrNotItStays() {
        for (int fodder = 0; fodder <= 1; fodder++) {
            CaravanRoad road = new CaravanRoad();
            road.inn(0, 60, fodder);
            road.inn(0, 60, 0);
            road.caravan(0, 1, 1, 0, 1, 0);
            road.shut(0, 1);
            road.shut(0, 2);
            for (int day = 0; day <= 2; day++) {
                due("inn on day " + day, road.state(0, day, 2, INN), 0);
                due("hungry on day " + day, road.state(0, day, 2, HUNGRY), fodder == 1 ? 0 : day + 1);
            }
            due("on the open road", road.state(0, 3, 2, INN), fodder == 1 ? 1 : 0);
        }
    }

    /** "an INN whose LORD is another one than that of the INN ahead". */
    private static void enteringTheLandOfALord() {
        String all = "toll 0 1; toll 1 10; toll 2 100; toll 3 1000; toll 4 5000;";
        tollsOf(all, new int[] {0, 1}, 0, 10);
        tollsOf(all, new int[] {1, 0}, 0, 1);
        tollsOf(all, new int[] {4, 4, 4}, 0, 0, 0);
        tollsOf(all, new int[] {0, 4, 4, 0}, 0, 5000, 5000, 5001);
        tollsOf(all, new int[] {2, 3, 2, 3}, 0, 1000, 1100, 2100);
        // Who waits in front of the land does not pay yet; it pays once.
        tollsOf(all + "bar 1 if day < 3;", new int[] {0, 1, 1}, 0, 0, 0, 10, 10, 10);
        // Who waits within it does not pay again.
        tollsOf(all + "bar 1 if inn == 2 and day < 4;", new int[] {0, 1, 1}, 0, 10, 10, 10, 10, 10);
    }

    /** "the E of the first toll RULE of that LORD that holds (or has no COND)". */
    private static void theFirstTollThatHolds() {
        int[] lords = {0, 1};
        tollsOf("toll 1 3; toll 1 4;", lords, 0, 3);
        tollsOf("toll 1 3 if 1 == 2; toll 1 4;", lords, 0, 4);
        tollsOf("toll 1 3 if 1 == 1; toll 1 4;", lords, 0, 3);
        tollsOf("toll 0 3; toll 1 4;", lords, 0, 4);
        tollsOf("first 3; bar 1 if 1 == 2; toll 1 4 if 2 == 2;", lords, 0, 4);
        tollsOf("toll 1 3 if 1 == 2;", lords, 0, 0);
        tollsOf("toll 1 3 if day == 0; toll 1 4 if day == 1; toll 1 5;", lords, 0, 4);
        // As it enters: hungry and late of the evenings ahead, the inn that it enters.
        CaravanRoad road = new CaravanRoad();
        road.inn(0, 60, 0);
        road.inn(1, 60, 0);
        road.caravan(2, 7, 5, 0, 1, 0);
        road.bale(0);
        Checks.read(road, "toll 1 1000*hungry + 100*late + 10*inn + bales;");
        due("vars at a toll", road.state(0, 1, 0, TOLLS), 1111);
        Checks.read(road, "toll 1 1000*kind + 100*beasts + 10*guards + day;");
        due("vars at a toll", road.state(0, 1, 0, TOLLS), 2751);
    }

    /** "if that is above 0": and a first one that is not hides those behind it. */
    private static void tollsAboveZero() {
        int[] lords = {0, 1};
        tollsOf("toll 1 1;", lords, 0, 1);
        tollsOf("toll 1 0;", lords, 0, 0);
        tollsOf("toll 1 0 - 1;", lords, 0, 0);
        tollsOf("toll 1 0; toll 1 5;", lords, 0, 0);
        tollsOf("toll 1 0 - 1; toll 1 5;", lords, 0, 0);
        tollsOf("toll 1 " + MOST + ";", lords, 0, Integer.MAX_VALUE);
        tollsOf("toll 1 " + MOST + "+1;", lords, 0, 0);
        CaravanRoad road = road(lords);
        road.caravan(0, 1, 1, 0, 1, 0);
        Checks.read(road, "toll 1 0 - 1;");
        due("what the lord gets", road.tolls(1, 59, 0), 0);
    }

    /** "its TOLLS are so much more (ints that wrap)": of a caravan, and of a lord. */
    private static void tollsWrap() {
        int most = Integer.MAX_VALUE;
        tollsOf("toll 0 " + MOST + "; toll 1 " + MOST + ";", new int[] {0, 1, 0, 1}, 0, most, -2, most - 2);
        tollsOf("toll 0 1; toll 1 " + MOST + ";", new int[] {0, 1, 0}, 0, most, Integer.MIN_VALUE);
        CaravanRoad road = road(0, 1);
        for (int c = 0; c < 3; c++) {
            road.caravan(0, 1, 1, 0, 1, c);
        }
        Checks.read(road, "toll 1 " + MOST + ";");
        due("one", road.tolls(1, 1, 0), most);
        due("two", road.tolls(1, 2, 0), -2);
        due("three", road.tolls(1, 3, 0), most - 2);
    }

    /** "the greatest FIRST ahead", "of the same the lesser number"; the ints' ends, too. */
    private static void theGreatestFirstAhead() {
        alone("", 0);
        alone("first 7;", 0);
        alone("first kind;", 2);
        alone("first 0 - kind;", 0);
        alone("first 1 if kind == 1;", 1);
        alone("first 0 - 1 if kind == 0;", 1);
        alone("first " + MOST + " if kind == 2; first " + MOST + "+1;", 2);
        alone("first " + MOST + "+1 if kind == 0; first " + MOST + ";", 1);
        alone("first " + MOST + "+1+kind;", 2);
        alone("first 0 - 2 if kind == 0; first " + MOST + " if kind == 2; first 1;", 2);
    }

    /** "the E of the first first RULE that holds, or has no COND; 0 without". */
    private static void firstsOfTheFirstRuleThatHolds() {
        firsts("", 0, 0, 0);
        firsts("first 5; first 6;", 5, 5, 5);
        firsts("first 5 if kind == 1; first 6 if kind <= 1; first 7;", 6, 5, 7);
        firsts("first 5 if kind == 1;", 0, 5, 0);
        firsts("toll 0 4; bar 0 if 1 == 1; first 5 if kind != 1;", 5, 0, 5);
        firsts("first 0 - 5 if kind == 2; first 0 if kind == 1; first 9;", 9, 0, -5);
    }

    /** FIRST is of the evening's beginning: hungry and late of the evenings ahead. */
    private static void firstsAsTheEveningBegins() {
        CaravanRoad road = new CaravanRoad();
        road.inn(0, 60, 0);
        road.inn(0, 60, 0);
        road.inn(0, 60, 0);
        road.caravan(0, 1, 1, 0, 2, 0);
        Checks.read(road, "first 1000*hungry + 100*late + 10*inn + day;");
        states(road, FIRST, 0, 0, 1111, 2222, 0);
    }

    /** "GUARDS together at most its SIZE". */
    private static void guardsAtMostTheSize() {
        rooms(new int[] {1}, 60, new int[][] {{0, 1, 1}}, 0);
        rooms(new int[] {1}, 60, new int[][] {{0, 1, 2}}, -1);
        rooms(new int[] {9}, 60, new int[][] {{0, 1, 9}}, 0);
        rooms(new int[] {8}, 60, new int[][] {{0, 1, 9}}, -1);
        rooms(new int[] {20}, 60, new int[][] {{0, 1, 9}, {0, 1, 9}, {0, 1, 2}}, 0, 0, 0);
        rooms(new int[] {20}, 60, new int[][] {{0, 1, 9}, {0, 1, 9}, {0, 1, 3}}, 0, 0, -1);
        rooms(new int[] {20}, 60, new int[][] {{0, 1, 9}, {0, 1, 9}, {0, 1, 3}, {0, 1, 2}}, 0, 0, -1, 0);
        rooms(new int[] {1, 1, 1}, 60, new int[][] {{0, 1, 1}, {0, 1, 1}, {0, 1, 1}, {0, 1, 1}}, 0, 1, 2, -1);
        rooms(new int[0], 60, new int[][] {{0, 1, 1}}, -1);
    }

    /** "those of one ROOM are of one KIND". */
    private static void roomsOfOneKind() {
        rooms(new int[] {20}, 60, new int[][] {{0, 1, 1}, {1, 1, 1}, {0, 1, 1}}, 0, -1, 0);
        rooms(new int[] {20, 20, 20}, 60,
                new int[][] {{3, 1, 1}, {2, 1, 1}, {1, 1, 1}, {0, 1, 1}, {2, 1, 1}, {3, 1, 1}},
                0, 1, 2, -1, 1, 0);
        rooms(new int[] {20, 20}, 60, new int[][] {{3, 1, 1}, {3, 1, 1}, {3, 1, 1}, {3, 1, 1}, {3, 1, 1},
            {3, 1, 1}}, 0, 0, 0, 0, 0, 0);
        // Outside, kinds need not be kept apart, and nobody keeps a room from another.
        rooms(new int[] {1}, 60, new int[][] {{0, 1, 2}, {1, 1, 2}, {2, 1, 1}}, -1, -1, 0);
    }

    /** "BEASTS of all who are in ROOMS at most STALLS." */
    private static void beastsAtMostTheStalls() {
        rooms(new int[] {20}, 0, new int[][] {{0, 1, 1}}, -1);
        rooms(new int[] {20}, 1, new int[][] {{0, 1, 1}}, 0);
        rooms(new int[] {20}, 29, new int[][] {{0, 30, 1}}, -1);
        rooms(new int[] {20}, 30, new int[][] {{0, 30, 1}}, 0);
        rooms(new int[] {20}, 60, new int[][] {{0, 30, 1}, {0, 30, 1}, {0, 1, 1}}, 0, 0, -1);
        rooms(new int[] {20, 20}, 60, new int[][] {{0, 30, 1}, {1, 29, 1}, {0, 2, 1}, {1, 1, 1}}, 0, 1, -1, 1);
        // The beasts of those outside take no stalls.
        rooms(new int[] {1}, 5, new int[][] {{0, 30, 2}, {0, 5, 1}}, -1, 0);
    }

    /** "the first in ORDER is in a ROOM if it is so in any, then the second likewise, and so on". */
    private static void theFirstIsInARoomIfInAny() {
        // One ahead counts for more than all behind it.
        rooms(new int[] {20}, 30, new int[][] {{0, 30, 1}, {0, 15, 1}, {0, 15, 1}}, 0, -1, -1);
        rooms(new int[] {9}, 60, new int[][] {{0, 1, 9}, {0, 1, 4}, {0, 1, 5}}, 0, -1, -1);
        rooms(new int[] {9}, 60, new int[][] {{1, 1, 1}, {0, 1, 4}, {0, 1, 5}}, 0, -1, -1);
        // Who is ahead gives way to another room, not to outside.
        rooms(new int[] {9, 1}, 60, new int[][] {{0, 1, 1}, {1, 1, 9}}, 1, 0);
        rooms(new int[] {9, 3, 2}, 60, new int[][] {{0, 1, 2}, {1, 1, 3}, {2, 1, 9}}, 2, 1, 0);
        rooms(new int[] {4, 4}, 60, new int[][] {{0, 1, 2}, {0, 1, 2}, {1, 1, 4}}, 0, 0, 1);
        rooms(new int[] {4, 4}, 60, new int[][] {{0, 1, 2}, {0, 1, 3}, {0, 1, 2}, {0, 1, 1}}, 0, 1, 0, 1);
        rooms(new int[] {4, 4}, 60, new int[][] {{0, 1, 3}, {0, 1, 2}, {0, 1, 2}, {0, 1, 1}}, 0, 1, 1, 0);
        // Who cannot be inside in any way does not keep those behind from it.
        rooms(new int[] {5, 5}, 60, new int[][] {{0, 1, 9}, {1, 1, 5}, {2, 1, 5}}, -1, 0, 1);
    }

    /** "of these that in which the first in ORDER has the least ROOM, then the second, and so on". */
    private static void theLeastRooms() {
        rooms(new int[] {5, 5, 5}, 60, new int[][] {{0, 1, 1}, {1, 1, 1}, {2, 1, 1}}, 0, 1, 2);
        rooms(new int[] {5, 5, 5}, 60, new int[][] {{0, 1, 5}, {0, 1, 1}}, 0, 1);
        rooms(new int[] {1, 5, 5}, 60, new int[][] {{0, 1, 2}, {0, 1, 1}, {0, 1, 3}}, 1, 0, 1);
        // The least is the least number, not the least size.
        rooms(new int[] {20, 1}, 60, new int[][] {{0, 1, 1}}, 0);
        rooms(new int[] {6, 6}, 60, new int[][] {{0, 1, 3}, {0, 1, 3}, {0, 1, 3}, {0, 1, 3}}, 0, 0, 1, 1);
        // By ORDER, not by number.
        CaravanRoad road = new CaravanRoad();
        road.inn(0, 60, 60);
        road.inn(0, 60, 60);
        road.room(0, 5);
        road.room(0, 5);
        road.caravan(0, 1, 1, 0, 1, 0);
        road.caravan(1, 1, 1, 0, 1, 0);
        Checks.read(road, "first kind;");
        due("room of 0", road.state(0, 0, 0, ROOM), 1);
        due("room of 1", road.state(1, 0, 0, ROOM), 0);
    }

    /** "Each INN for itself". */
    private static void innsForThemselves() {
        CaravanRoad road = new CaravanRoad();
        for (int i = 0; i < 3; i++) {
            road.inn(0, 5, 5);
            road.room(i, 1);
        }
        for (int i = 0; i < 3; i++) {
            road.caravan(i, 5, 1, i, (i + 1) % 3, 0);
        }
        for (int i = 0; i < 3; i++) {
            due("room at " + i, road.state(i, 0, 0, ROOM), 0);
            due("hungry at " + i, road.state(i, 0, 0, HUNGRY), 0);
            due("left at " + i, road.house(i, 0, 0, 1), 0);
        }
    }

    /** "Who is outside is LATE once more." */
    private static void lateOnceMore() {
        CaravanRoad road = new CaravanRoad();
        road.inn(0, 60, 60);
        road.inn(0, 60, 60);
        road.inn(0, 60, 60);
        road.room(1, 5);
        road.caravan(0, 1, 1, 0, 2, 1);
        states(road, LATE, 0, 0, 1, 1, 2, 2);
        road.shut(0, 2);
        due("late when it waits", road.state(0, 2, 1, LATE), 2);
        CaravanRoad waits = new CaravanRoad();
        waits.inn(0, 60, 60);
        waits.inn(0, 60, 60);
        waits.caravan(0, 1, 1, 0, 1, 0);
        Checks.read(waits, "bar 0 if 1 == 1;");
        due("late on all evenings", waits.state(0, 59, 0, LATE), 60);
    }

    /** "takes as much as it has BEASTS, if there is so much: its HUNGRY is 0; else it takes nothing". */
    private static void fodderThatIsEnough() {
        int[][] cases = {{5, 5, 0, 0}, {5, 6, 0, 1}, {5, 4, 1, 4}, {1, 0, 1, 0}, {1, 1, 0, 0}, {30, 30, 0, 0},
            {30, 29, 1, 29}, {30, 60, 0, 30}};
        for (int[] c : cases) {
            CaravanRoad road = new CaravanRoad();
            road.inn(0, 60, c[1]);
            road.inn(0, 60, 0);
            road.caravan(0, c[0], 1, 0, 1, 0);
            due(c[0] + " beasts, " + c[1] + " fodder: hungry", road.state(0, 0, 0, HUNGRY), c[2]);
            due(c[0] + " beasts, " + c[1] + " fodder: left", road.house(0, 0, 0, 1), c[3]);
        }
    }

    /** "In ORDER each CARAVAN there (in ROOMS, outside)". */
    private static void fodderInOrder() {
        CaravanRoad road = new CaravanRoad();
        road.inn(0, 60, 7);
        road.inn(0, 60, 0);
        road.room(0, 1);
        road.caravan(0, 4, 2, 0, 1, 0);
        road.caravan(1, 4, 1, 0, 1, 0);
        road.caravan(2, 3, 1, 0, 1, 0);
        String[] texts = {"", "first kind;", "first 5 if kind == 1;", "first 5 - 5 * kind + 4 * kind * kind;"};
        int[][] hungry = {{0, 1, 0}, {1, 0, 0}, {1, 0, 0}, {0, 1, 0}};
        for (int i = 0; i < texts.length; i++) {
            Checks.read(road, texts[i]);
            for (int c = 0; c < 3; c++) {
                due("hungry " + c + " by " + texts[i], road.state(c, 0, 0, HUNGRY), hungry[i][c]);
            }
            due("left by " + texts[i], road.house(0, 0, 0, 1), 0);
            due("0 is outside", road.state(0, 0, 0, ROOM), -1);
        }
    }

    /** "what is left of the evening ahead, and what comes, 200 at most (0 ahead of DAY 0)". */
    private static void twoHundredAtMost() {
        int[][] fodders = {{0, 0, 0, 0, 0, 0}, {1, 1, 2, 3, 4, 5}, {50, 50, 100, 150, 200, 200},
            {60, 60, 120, 180, 200, 200}, {40, 40, 80, 120, 160, 200}, {49, 49, 98, 147, 196, 200}};
        for (int[] f : fodders) {
            CaravanRoad road = new CaravanRoad();
            road.inn(0, 0, f[0]);
            for (int day = 0; day < 5; day++) {
                due("fodder " + f[0] + " on day " + day, road.house(0, day, 0, 1), f[day + 1]);
            }
            due("on the last day", road.house(0, 59, 0, 1), Math.min(200, 60 * f[0]));
        }
        // The most is of what is there ahead of the taking.
        CaravanRoad road = new CaravanRoad();
        road.inn(0, 0, 60);
        road.inn(0, 0, 0);
        road.caravan(0, 30, 1, 0, 1, 3);
        due("ahead", road.house(0, 2, 0, 1), 180);
        due("on its day", road.house(0, 3, 0, 1), 170);
        due("behind", road.house(0, 4, 0, 1), 200);
    }

    /** "One that is at its goal when the evening begins takes part in this evening, and is gone then." */
    private static void goneBehindItsGoal() {
        CaravanRoad road = new CaravanRoad();
        road.inn(0, 60, 60);
        road.inn(0, 9, 5);
        road.room(1, 4);
        road.caravan(0, 9, 4, 0, 1, 0);
        road.caravan(0, 2, 1, 1, 0, 1);
        road.caravan(0, 1, 1, 1, 0, 2);
        due("its room", road.state(0, 1, 0, ROOM), 0);
        due("it takes fodder", road.house(1, 1, 0, 1), 1);
        due("hungry", road.state(0, 1, 0, HUNGRY), 0);
        due("the other one is outside", road.state(1, 1, 0, ROOM), -1);
        due("the other one is hungry", road.state(1, 1, 0, HUNGRY), 1);
        due("gone", road.state(0, 2, 0, INN), -1);
        due("its room is free", road.state(2, 2, 0, ROOM), 0);
        due("it takes no more", road.house(1, 2, 0, 1), 5);
    }

    /** Inns of these lords, with stalls and fodder enough and a room of 20. */
    private static CaravanRoad road(int... lords) {
        CaravanRoad road = new CaravanRoad();
        for (int i = 0; i < lords.length; i++) {
            road.inn(lords[i], 60, 60);
            road.room(i, 20);
        }
        return road;
    }

    /** When a caravan comes on a road of four inns, with roads that are shut (road, day). */
    private static int comesWith(int from, int to, int begin, int... shuts) {
        CaravanRoad road = road(0, 0, 0, 0);
        road.caravan(0, 1, 1, from, to, begin);
        for (int i = 0; i + 1 < shuts.length; i += 2) {
            road.shut(shuts[i], shuts[i + 1]);
        }
        return road.comes(0, road.count(3));
    }

    /** When a caravan comes from one inn to the next, by rules. */
    private static int comesBy(String rules, int lord, int nextLord) {
        CaravanRoad road = road(lord, nextLord);
        road.caravan(0, 1, 1, 0, 1, 0);
        Checks.read(road, rules);
        return road.comes(0, 0);
    }

    /** The TOLLS, from day 0 on, of a caravan that goes by all inns of these lords. */
    private static void tollsOf(String rules, int[] lords, int... dues) {
        CaravanRoad road = road(lords);
        road.caravan(0, 1, 1, 0, lords.length - 1, 0);
        due("read() of " + rules, Checks.read(road, rules), 0);
        for (int day = 0; day < dues.length; day++) {
            due("tolls on day " + day + " by " + rules, road.state(0, day, 0, TOLLS), dues[day]);
        }
    }

    /** Of three caravans of the kinds 0, 1, 2 one has the only room. */
    private static void alone(String rules, int inside) {
        CaravanRoad road = three(1);
        due("read() of " + rules, Checks.read(road, rules), 0);
        for (int c = 0; c < 3; c++) {
            due("room of " + c + " by " + rules, road.state(c, 0, 0, ROOM), c == inside ? 0 : -1);
        }
    }

    private static void firsts(String rules, int... dues) {
        CaravanRoad road = three(1);
        due("read() of " + rules, Checks.read(road, rules), 0);
        for (int c = 0; c < 3; c++) {
            due("FIRST of " + c + " by " + rules, road.state(c, 0, 0, FIRST), dues[c]);
        }
    }

    private static CaravanRoad three(int size) {
        CaravanRoad road = new CaravanRoad();
        road.inn(0, 60, 60);
        road.inn(0, 60, 60);
        road.room(0, size);
        for (int kind = 0; kind < 3; kind++) {
            road.caravan(kind, 1, 1, 0, 1, 0);
        }
        return road;
    }

    /** Caravans (kind, beasts, guards) at one inn, in the order of their numbers: their rooms. */
    private static void rooms(int[] sizes, int stalls, int[][] caravans, int... dues) {
        CaravanRoad road = new CaravanRoad();
        road.inn(0, stalls, 60);
        road.inn(0, 60, 60);
        for (int size : sizes) {
            road.room(0, size);
        }
        for (int[] c : caravans) {
            road.caravan(c[0], c[1], c[2], 0, 1, 0);
        }
        for (int c = 0; c < dues.length; c++) {
            due("room of " + c + " of " + Arrays.deepToString(caravans) + " in "
                    + Arrays.toString(sizes), road.state(c, 0, 0, ROOM), dues[c]);
        }
    }

    private static void states(CaravanRoad road, int what, int caravan, int... dues) {
        for (int day = 0; day < dues.length; day++) {
            due("state(" + caravan + ", " + day + ", 0, " + what + ")", road.state(caravan, day, 0, what),
                    dues[day]);
        }
    }

    private static void due(String call, long got, long want) {
        CHECKS.due(call, got, want);
    }
}
