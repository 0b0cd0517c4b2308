import java.util.function.ToIntFunction;

/**
 * Terms I and promises 1, 6 to 11 and 21, a sentence of the document a test: how many may be told, of
 * what size, and that a call which is refused changes nothing.
 */
public final class EdgeToldTest {
    private static final int LEAST = Integer.MIN_VALUE;
    private static final int MOST = Integer.MAX_VALUE;
    private static final Checks CHECKS = new Checks();

    public static void main(String[] args) {
        aNewObjectHasNothing();
        objectsAreApart();
        eightInns();
        lordsStallsFodder();
        innsAreWithoutRooms();
        threeRooms();
        roomsOfNoSuchInnOrSize();
        sixCaravans();
        caravansOfNoSuchKindBeastsGuards();
        caravansOfNoSuchInnsOrDay();
        sixtyBales();
        balesOfNoSuchCaravan();
        threeHundredFacts();
        shutsOfNoSuchInnsOrDay();
        looksOfNoSuchBaleOrDay();
        theFirstFactsAreKnown();
        whatIsToldBehindAQuestion();
        counts();
        CHECKS.end();
    }

    /** "No INNS, no CARAVANS, no RULES." */
    private static void aNewObjectHasNothing() {
        CaravanRoad road = new CaravanRoad();
        for (int what = 0; what <= 5; what++) {
            due("count(" + what + ")", road.count(what), 0);
        }
        due("state of no caravan", road.state(0, 0, 0, 0), -1000000);
        due("house of no inn", road.house(0, 0, 0, 0), -1000000);
        road.inn(0, 60, 60);
        road.inn(1, 60, 60);
        road.caravan(0, 1, 1, 0, 1, 0);
        due("FIRST without rules", road.state(0, 0, 0, 6), 0);
        due("TOLLS without rules", road.state(0, 1, 0, 4), 0);
        due("no bar without rules", road.barred(0, 1, 0), -1);
        due("no room", road.state(0, 0, 0, 1), -1);
    }

    /** What one object is told, another one does not know. */
    private static void objectsAreApart() {
        CaravanRoad one = sample();
        CaravanRoad other = new CaravanRoad();
        String ahead = Checks.picture(one);
        other.inn(4, 0, 0);
        Checks.read(other, "bar 4 if 1 == 1;");
        CHECKS.same("another object", Checks.picture(one), ahead);
        due("inns of the other", other.count(0), 1);
        due("caravans of the other", other.count(1), 0);
    }

    /** "INNS, 8 at most, stand in a row, numbered from 0 on"; "8 are there". */
    private static void eightInns() {
        CaravanRoad road = new CaravanRoad();
        for (int i = 0; i < 8; i++) {
            due("inn " + i, road.inn(0, 0, i), i);
            due("its fodder", road.house(i, 0, 0, 1), i);
            due("no inn behind", road.house(i + 1, 0, 0, 1), -1000000);
        }
        String ahead = Checks.picture(road);
        due("a ninth inn", road.inn(0, 0, 0), -1);
        due("a ninth inn again", road.inn(4, 60, 60), -1);
        CHECKS.same("a ninth inn", Checks.picture(road), ahead);
        due("house of a ninth", road.house(8, 0, 0, 1), -1000000);
        due("the way through all eight", road.caravan(0, 1, 1, 0, 7, 0), 0);
        due("its last day", road.comes(0, 0), 7);
    }

    /** "a LORD (0 .. 4), STALLS (0 .. 60), FODDER that comes each day (0 .. 60)". */
    private static void lordsStallsFodder() {
        for (int lord : new int[] {-1, 5, LEAST, MOST}) {
            refused("inn of lord " + lord, r -> r.inn(lord, 1, 1));
        }
        for (int x : new int[] {-1, 61, LEAST, MOST}) {
            refused("inn of stalls " + x, r -> r.inn(1, x, 1));
            refused("inn of fodder " + x, r -> r.inn(1, 1, x));
        }
        int[][] right = {{0, 0, 0}, {4, 60, 60}, {0, 60, 0}, {4, 0, 60}, {1, 1, 1}, {3, 59, 59}};
        for (int[] r : right) {
            CaravanRoad road = new CaravanRoad();
            due("inn of " + r[0] + ", " + r[1] + ", " + r[2], road.inn(r[0], r[1], r[2]), 0);
            due("its fodder", road.house(0, 0, 0, 1), r[2]);
        }
    }

    /** "An INN behind the others, without ROOMS: its number." */
    private static void innsAreWithoutRooms() {
        CaravanRoad road = new CaravanRoad();
        road.inn(0, 60, 60);
        due("full without rooms", road.full(0, 0, 0, 0), -1000000);
        road.room(0, 1);
        road.inn(0, 60, 60);
        due("full of the next inn", road.full(1, 0, 0, 0), -1000000);
        due("full of the first", road.full(0, 0, 0, 0), 0);
    }

    /** "ROOMS, 3 at most"; "A ROOM of an INN: its number there." "3 are there". */
    private static void threeRooms() {
        CaravanRoad road = new CaravanRoad();
        road.inn(0, 60, 60);
        road.inn(0, 60, 60);
        for (int room = 0; room < 3; room++) {
            due("room " + room, road.room(0, 20), room);
            due("no room behind", road.full(0, room + 1, 0, 0), -1000000);
        }
        String ahead = Checks.picture(road);
        due("a fourth room", road.room(0, 20), -1);
        due("a fourth room of another size", road.room(0, 1), -1);
        CHECKS.same("a fourth room", Checks.picture(road), ahead);
        due("full of a fourth", road.full(0, 3, 0, 0), -1000000);
        due("a room of the other inn", road.room(1, 20), 0);
    }

    /** "each of a SIZE (1 .. 20)"; "no such INN, SIZE". */
    private static void roomsOfNoSuchInnOrSize() {
        refused("room of inn 0 of none", new CaravanRoad(), r -> r.room(0, 1));
        for (int inn : new int[] {-1, 3, LEAST, MOST}) {
            refused("room of inn " + inn, r -> r.room(inn, 1));
        }
        for (int size : new int[] {0, -1, 21, LEAST, MOST}) {
            refused("room of size " + size, r -> r.room(0, size));
        }
        for (int size : new int[] {1, 2, 19, 20}) {
            due("room of size " + size, sample().room(0, size), 1);
        }
    }

    /** "CARAVANS, 6 at most, numbered from 0 on"; "6 are there". */
    private static void sixCaravans() {
        CaravanRoad road = new CaravanRoad();
        road.inn(0, 60, 60);
        road.inn(0, 60, 60);
        for (int c = 0; c < 6; c++) {
            due("no caravan yet", road.state(c, c, 0, 0), -1000000);
            due("caravan " + c, road.caravan(0, 1, 1, 0, 1, c), c);
            due("where it begins", road.state(c, c, 0, 0), 0);
        }
        String ahead = Checks.picture(road);
        due("a seventh caravan", road.caravan(0, 1, 1, 0, 1, 0), -1);
        CHECKS.same("a seventh caravan", Checks.picture(road), ahead);
        due("state of a seventh", road.state(6, 0, 0, 0), -1000000);
        due("a bale of a seventh", road.bale(6), -1);
    }

    /** "a KIND (0 .. 3), BEASTS (1 .. 30), GUARDS (1 .. 9)". */
    private static void caravansOfNoSuchKindBeastsGuards() {
        for (int kind : new int[] {-1, 4, LEAST, MOST}) {
            refused("caravan of kind " + kind, r -> r.caravan(kind, 1, 1, 0, 1, 0));
        }
        for (int beasts : new int[] {0, -1, 31, LEAST, MOST}) {
            refused("caravan of beasts " + beasts, r -> r.caravan(0, beasts, 1, 0, 1, 0));
        }
        for (int guards : new int[] {0, -1, 10, LEAST, MOST}) {
            refused("caravan of guards " + guards, r -> r.caravan(0, 1, guards, 0, 1, 0));
        }
        int[][] right = {{0, 1, 1}, {3, 30, 9}, {0, 30, 1}, {3, 1, 9}};
        for (int[] x : right) {
            CaravanRoad road = sample();
            due("caravan of " + x[0] + ", " + x[1] + ", " + x[2], road.caravan(x[0], x[1], x[2], 2, 0, 5), 2);
            road.back(7);
            Checks.read(road, "first kind * 100 * 100 + beasts * 100 + guards;");
            due("its FIRST", road.state(2, 5, 0, 6), x[0] * 10000 + x[1] * 100 + x[2]);
        }
    }

    /** "from an INN .. to another one"; "INNS, one and the same, no such DAY". */
    private static void caravansOfNoSuchInnsOrDay() {
        refused("caravan from the only inn to none", lone(), r -> r.caravan(0, 1, 1, 0, 1, 0));
        for (int inn : new int[] {-1, 3, LEAST, MOST}) {
            refused("caravan from " + inn, r -> r.caravan(0, 1, 1, inn, 1, 0));
            refused("caravan to " + inn, r -> r.caravan(0, 1, 1, 1, inn, 0));
        }
        for (int inn = 0; inn < 3; inn++) {
            int same = inn;
            refused("caravan from and to " + inn, r -> r.caravan(0, 1, 1, same, same, 0));
        }
        for (int day : new int[] {-1, 60, LEAST, MOST}) {
            refused("caravan on day " + day, r -> r.caravan(0, 1, 1, 0, 1, day));
        }
        int[][] right = {{0, 2, 0}, {2, 0, 59}, {1, 2, 58}, {1, 0, 1}};
        for (int[] x : right) {
            CaravanRoad road = sample();
            due("caravan from " + x[0] + " to " + x[1], road.caravan(0, 1, 1, x[0], x[1], x[2]), 2);
            due("where it begins", road.state(2, x[2], 0, 0), x[0]);
        }
    }

    /** "BALES, 60 at most: each of a CARAVAN"; "60 are there". */
    private static void sixtyBales() {
        CaravanRoad road = new CaravanRoad();
        road.inn(0, 60, 60);
        road.inn(0, 60, 60);
        road.caravan(0, 1, 1, 0, 1, 0);
        road.caravan(0, 1, 1, 0, 1, 0);
        Checks.read(road, "first bales;");
        for (int b = 0; b < 60; b++) {
            due("no bale yet", road.look(b, 0, true), -1);
            due("bale " + b, road.bale(b % 3 == 0 ? 1 : 0), b);
        }
        String ahead = Checks.picture(road);
        due("a 61st bale", road.bale(0), -1);
        due("a 61st bale of the other", road.bale(1), -1);
        CHECKS.same("a 61st bale", Checks.picture(road), ahead);
        due("bales of 0", road.state(0, 0, 0, 6), 40);
        due("bales of 1", road.state(1, 0, 0, 6), 20);
        due("a look at the 60th", road.look(59, 0, true), 0);
        due("a look at a 61st", road.look(60, 0, true), -1);
    }

    /** "no such CARAVAN." */
    private static void balesOfNoSuchCaravan() {
        refused("bale of caravan 0 of none", new CaravanRoad(), r -> r.bale(0));
        for (int caravan : new int[] {-1, 2, 6, LEAST, MOST}) {
            refused("bale of caravan " + caravan, r -> r.bale(caravan));
        }
        due("bale of caravan 1", sample().bale(1), 2);
    }

    /** "FACTS, numbered from 0 on, 300 at most"; "300 are there", of both sorts together. */
    private static void threeHundredFacts() {
        for (int sort = 0; sort < 3; sort++) {
            CaravanRoad road = new CaravanRoad();
            road.inn(0, 60, 60);
            road.inn(0, 60, 60);
            road.caravan(0, 1, 1, 0, 1, 0);
            road.bale(0);
            for (int f = 0; f < 300; f++) {
                boolean isShut = sort == 0 || sort == 2 && f % 3 == 0;
                due("fact " + f, isShut ? road.shut(0, 30 + f % 30) : road.look(0, 59 - f % 60, true), f);
            }
            String ahead = Checks.picture(road);
            due("a 301st, a shut road", road.shut(0, 1), -1);
            due("a 301st, a look", road.look(0, 0, false), -1);
            CHECKS.same("a 301st fact", Checks.picture(road), ahead);
            due("comes by 300", road.comes(0, 300), 1);
            due("sealed by 300", road.sealed(0, 59, 300), 1);
            due("comes by 301", road.comes(0, 301), -1);
        }
    }

    /** "The road between INN i and i + 1"; "no such INNS, DAY". */
    private static void shutsOfNoSuchInnsOrDay() {
        refused("shut without inns", new CaravanRoad(), r -> r.shut(0, 0));
        refused("shut(-1) without inns", new CaravanRoad(), r -> r.shut(-1, 0));
        refused("shut behind the only inn", lone(), r -> r.shut(0, 0));
        refused("shut ahead of the only inn", lone(), r -> r.shut(-1, 0));
        for (int i : new int[] {-1, 2, 3, LEAST, MOST}) {
            refused("shut of road " + i, r -> r.shut(i, 1));
        }
        for (int day : new int[] {-1, 60, LEAST, MOST}) {
            refused("shut on day " + day, r -> r.shut(0, day));
        }
        for (int day : new int[] {0, 59}) {
            due("shut(0, " + day + ")", sample().shut(0, day), 3);
            due("shut(1, " + day + ")", sample().shut(1, day), 3);
        }
        CaravanRoad whole = new CaravanRoad();
        for (int i = 0; i < 8; i++) {
            whole.inn(0, 60, 60);
        }
        due("the last road", whole.shut(6, 0), 0);
        due("no road behind the last inn", whole.shut(7, 0), -1);
    }

    /** "no such BALE, DAY". */
    private static void looksOfNoSuchBaleOrDay() {
        refused("look without bales", new CaravanRoad(), r -> r.look(0, 0, false));
        for (int bale : new int[] {-1, 2, 60, LEAST, MOST}) {
            refused("look at bale " + bale, r -> r.look(bale, 1, false));
        }
        for (int day : new int[] {-1, 60, LEAST, MOST}) {
            refused("look on day " + day, r -> r.look(0, day, false));
            refused("look on day " + day, r -> r.look(1, day, true));
        }
        due("look(0, 0, true)", sample().look(0, 0, true), 3);
        due("look(1, 59, false)", sample().look(1, 59, false), 3);
    }

    /** "as KNOWN by n the first n of them are": 0 none, all of them the most. */
    private static void theFirstFactsAreKnown() {
        CaravanRoad road = new CaravanRoad();
        road.inn(0, 60, 60);
        road.inn(0, 60, 60);
        road.caravan(0, 1, 1, 0, 1, 0);
        road.bale(0);
        for (int day = 1; day <= 4; day++) {
            due("comes by all", road.comes(0, road.count(3)), day);
            due("by one more than there are", road.comes(0, road.count(3) + 1), -1);
            road.shut(0, day);
        }
        road.look(0, 7, false);
        for (int n = 0; n <= 5; n++) {
            due("comes by " + n, road.comes(0, n), 1 + Math.min(n, 4));
            due("sealed by " + n, road.sealed(0, 7, n), n < 5 ? 1 : 0);
        }
        // A road that is shut twice is known to be shut by the first of both.
        road.shut(0, 1);
        due("comes by 1", road.comes(0, 1), 2);
        due("comes by 6", road.comes(0, 6), 5);
        due("comes by 0", road.comes(0, 0), 1);
    }

    /** What is told stands for all DAYS, also when the road was asked of ahead of it. */
    private static void whatIsToldBehindAQuestion() {
        CaravanRoad road = new CaravanRoad();
        road.inn(0, 60, 9);
        due("nobody", road.crowded(0, 0, 0), -1);
        road.inn(1, 60, 7);
        due("a new inn", road.house(1, 0, 0, 1), 7);
        road.caravan(0, 5, 2, 0, 1, 0);
        due("a new caravan", road.crowded(0, 0, 0), 0);
        due("its fodder", road.house(0, 0, 0, 1), 4);
        road.room(0, 2);
        due("a new room", road.crowded(0, 0, 0), -1);
        Checks.read(road, "first bales; bar 1 if day == 1 and bales == 2;");
        due("new rules", road.state(0, 0, 0, 6), 0);
        road.bale(0);
        due("a new bale", road.state(0, 0, 0, 6), 1);
        road.bale(0);
        due("one more bale", road.state(0, 0, 0, 6), 2);
        due("it waits", road.comes(0, 0), 2);
        road.shut(0, 2);
        due("a new shut road, not known", road.comes(0, 0), 2);
        due("a new shut road, known", road.comes(0, 1), 3);
        road.read();
        due("no rules, not known", road.comes(0, 0), 1);
        due("no rules, known", road.comes(0, 1), 1);
    }

    /** "0 INNS, 1 CARAVANS, 2 BALES, 3 FACTS, 4 RULES, 5 bytes on the tape. NONE for others." */
    private static void counts() {
        CaravanRoad road = sample();
        int[] dues = {3, 2, 2, 3, 3, 7};
        for (int what = 0; what < dues.length; what++) {
            due("count(" + what + ")", road.count(what), dues[what]);
        }
        for (int what : new int[] {-1, 6, LEAST, MOST}) {
            due("count(" + what + ")", road.count(what), -1);
        }
    }

    /** Three inns, two caravans that meet, a bale of each, three facts, three rules, and a tape in use. */
    private static CaravanRoad sample() {
        CaravanRoad road = new CaravanRoad();
        road.inn(0, 5, 10);
        road.inn(1, 9, 3);
        road.inn(1, 60, 60);
        road.room(0, 4);
        road.room(1, 5);
        road.caravan(0, 3, 2, 0, 2, 0);
        road.caravan(0, 4, 3, 2, 0, 0);
        road.bale(0);
        road.bale(1);
        road.shut(0, 2);
        road.look(0, 3, false);
        road.look(1, 1, true);
        Checks.read(road, "first bales + beasts; toll 1 5 + inn; bar 0 if day < 4;");
        Checks.read(road, "first ;");
        Checks.feed(road, "first 7");
        return road;
    }

    private static CaravanRoad lone() {
        CaravanRoad road = new CaravanRoad();
        road.inn(0, 60, 60);
        return road;
    }

    /** "NONE, and nothing happens": neither to what is there, nor to the number of what comes next. */
    private static void refused(String call, ToIntFunction<CaravanRoad> wrong) {
        refused(call, sample(), wrong);
    }

    private static void refused(String call, CaravanRoad road, ToIntFunction<CaravanRoad> wrong) {
        String ahead = Checks.picture(road);
        int inns = road.count(0);
        due(call, wrong.applyAsInt(road), -1);
        CHECKS.same(call, Checks.picture(road), ahead);
        due("an inn behind " + call, road.inn(0, 1, 1), inns);
    }

    private static void due(String call, long got, long want) {
        CHECKS.due(call, got, want);
    }
}
