/** Terms IV and promises 17 and 18, a sentence of the document a test: the edges of LOOKS. */
public final class EdgeSealTest {
    private static final Checks CHECKS = new Checks();

    public static void main(String[] args) {
        noLookSaysBroken();
        theFirstBrokenOneByDays();
        ofOneDayAsTold();
        theLastWholeOneAheadOfIt();
        theFirstFact();
        noneAheadOfDayZero();
        behindTheDayOfTheWholeOne();
        onTheSameDayAsTheBrokenOne();
        upToTheDayOfTheBrokenOne();
        othersThanItsOwn();
        inItsRoom();
        outsideWithItAtOneInn();
        withoutAnInn();
        asKnownBy();
        couldOfNoSuchOnes();
        wholeUpToADay();
        brokenForEver();
        sealedOfNoSuchOnes();
        CHECKS.end();
    }

    /** "NONE: no LOOK says that it is broken". */
    private static void noLookSaysBroken() {
        CaravanRoad road = met();
        could("no look", road, -1);
        road.look(0, 0, true);
        road.look(0, 59, true);
        could("whole ones", road, -1);
        // Another bale's look says nothing of it.
        road.bale(0);
        road.look(1, 3, false);
        could("another bale is broken", road, -1);
        due("the other bale", road.could(1, road.count(3)), days(0, 3));
    }

    /** "of the BALE's LOOKS, by DAYS .. the first broken one". */
    private static void theFirstBrokenOneByDays() {
        looks(days(0, 2), 2, 'b', 4, 'b');
        looks(days(0, 2), 4, 'b', 2, 'b');
        looks(days(0, 2), 4, 'b', 2, 'b', 3, 'b');
        looks(days(2, 2), 4, 'b', 2, 'b', 1, 'w');
        looks(days(0, 1), 1, 'b', 2, 'w', 3, 'b');
    }

    /** "of the same as told". */
    private static void ofOneDayAsTold() {
        looks(days(3, 3), 3, 'w', 3, 'b');
        looks(days(0, 3), 3, 'b', 3, 'w');
        looks(days(0, 3), 3, 'b', 3, 'w', 3, 'b');
        looks(days(3, 3), 3, 'w', 3, 'w', 3, 'b', 3, 'w');
        looks(days(2, 3), 3, 'b', 3, 'w', 1, 'w');
        looks(days(3, 3), 4, 'b', 3, 'w', 3, 'b');
    }

    /** "and the last whole one ahead of it". */
    private static void theLastWholeOneAheadOfIt() {
        looks(days(3, 4), 0, 'w', 2, 'w', 4, 'b');
        looks(days(3, 4), 2, 'w', 0, 'w', 4, 'b');
        looks(days(3, 4), 4, 'b', 2, 'w', 0, 'w');
        looks(days(4, 4), 4, 'b', 2, 'w', 3, 'w');
        // A whole one behind the broken one is not ahead of it.
        looks(days(1, 2), 0, 'w', 2, 'b', 3, 'w', 59, 'w');
    }

    /** The first of all facts is a look as any other one. */
    private static void theFirstFact() {
        CaravanRoad road = new CaravanRoad();
        road.inn(0, 60, 60);
        road.inn(0, 60, 60);
        road.caravan(0, 1, 1, 0, 1, 0);
        road.caravan(0, 1, 1, 0, 1, 0);
        road.bale(0);
        road.look(0, 1, true);
        road.look(0, 2, false);
        could("fact 0 is whole", road, 0);
        road.look(0, 0, false);
        could("broken ahead of it", road, 2);
        CaravanRoad broken = new CaravanRoad();
        broken.inn(0, 60, 60);
        broken.inn(0, 60, 60);
        broken.caravan(0, 1, 1, 0, 1, 0);
        broken.bale(0);
        broken.look(0, 0, false);
        due("fact 0 is broken", broken.sealed(0, 0, 1), 0);
        could("fact 0 is broken", broken, 0);
    }

    /** "(none: ahead of DAY 0)", "or there is none ahead": DAY 0 counts. */
    private static void noneAheadOfDayZero() {
        looks(days(0, 0), 0, 'b');
        looks(days(0, 1), 1, 'b');
        looks(days(0, 4), 4, 'b');
        looks(days(0, 2), 2, 'b', 3, 'w');
    }

    /** "on an evening behind the DAY of that whole one". */
    private static void behindTheDayOfTheWholeOne() {
        looks(days(1, 1), 0, 'w', 1, 'b');
        looks(days(1, 4), 0, 'w', 4, 'b');
        looks(days(4, 4), 3, 'w', 4, 'b');
        looks(0, 4, 'w', 5, 'b');
        looks(0, 58, 'w', 59, 'b');
    }

    /** "(on it, too, if it is of the same DAY as the broken one": that day alone. */
    private static void onTheSameDayAsTheBrokenOne() {
        for (int day = 0; day <= 4; day++) {
            looks(days(day, day), day, 'w', day, 'b');
        }
        looks(days(2, 2), 0, 'w', 2, 'w', 2, 'b');
        looks(0, 59, 'w', 59, 'b');
    }

    /** "up to the DAY of the broken one": it counts, the next does not. */
    private static void upToTheDayOfTheBrokenOne() {
        for (int day = 0; day <= 4; day++) {
            looks(days(0, day), day, 'b');
        }
        looks(days(0, 4), 59, 'b');
        looks(days(3, 4), 2, 'w', 59, 'b');
    }

    /** "The CARAVANS, others than its own". */
    private static void othersThanItsOwn() {
        CaravanRoad road = met();
        road.bale(1);
        road.look(1, 0, false);
        due("who met caravan 1", road.could(1, road.count(3)), 1);
        CaravanRoad lone = new CaravanRoad();
        lone.inn(0, 60, 60);
        lone.inn(0, 60, 60);
        lone.room(0, 20);
        lone.caravan(0, 1, 1, 0, 1, 0);
        lone.bale(0);
        lone.look(0, 59, false);
        could("a lone caravan", lone, 0);
    }

    /** "that were in its ROOM": not in another one, not outside. */
    private static void inItsRoom() {
        CaravanRoad road = new CaravanRoad();
        road.inn(0, 60, 60);
        road.inn(0, 60, 60);
        road.room(0, 2);
        road.room(0, 2);
        road.room(0, 2);
        int[] kinds = {0, 1, 2, 0, 2, 3};
        for (int c = 0; c < 6; c++) {
            road.caravan(kinds[c], 1, 1, 0, 1, 0);
            road.bale(c);
        }
        for (int c = 0; c < 6; c++) {
            road.look(c, 0, false);
        }
        // Rooms: 0 and 3, 1 alone, 2 and 4; 5 is outside alone.
        int[] dues = {1 << 3, 0, 1 << 4, 1, 1 << 2, 0};
        for (int c = 0; c < 6; c++) {
            due("who was with " + c, road.could(c, 6), dues[c]);
        }
        // A room of the same number at another inn is another room.
        CaravanRoad apart = new CaravanRoad();
        for (int i = 0; i < 2; i++) {
            apart.inn(0, 60, 60);
            apart.room(i, 20);
        }
        apart.caravan(0, 1, 1, 0, 1, 0);
        apart.caravan(0, 1, 1, 1, 0, 0);
        apart.bale(0);
        apart.look(0, 59, false);
        could("rooms 0 of two inns", apart, 0);
    }

    /** "or were outside with it at one INN". */
    private static void outsideWithItAtOneInn() {
        CaravanRoad road = new CaravanRoad();
        road.inn(0, 60, 60);
        road.inn(0, 60, 60);
        road.room(0, 1);
        road.caravan(0, 1, 1, 0, 1, 0);
        road.caravan(1, 1, 1, 0, 1, 0);
        road.caravan(2, 1, 1, 0, 1, 0);
        road.caravan(0, 1, 1, 1, 0, 0);
        for (int c = 0; c < 4; c++) {
            road.bale(c);
            road.look(c, 0, false);
        }
        int[] dues = {0, 1 << 2, 1 << 1, 0};
        for (int c = 0; c < 4; c++) {
            due("who was outside with " + c, road.could(c, 4), dues[c]);
        }
        // All six outside at one inn: each other one, up to bit 5.
        CaravanRoad all = new CaravanRoad();
        all.inn(0, 0, 60);
        all.inn(0, 0, 60);
        for (int c = 0; c < 6; c++) {
            all.caravan(c % 4, 1, 1, 0, 1, 59);
            all.bale(c);
            all.look(c, 59, false);
        }
        for (int c = 0; c < 6; c++) {
            due("who was outside with " + c, all.could(c, 6), 63 - (1 << c));
        }
    }

    /** Those who have not begun, or are gone, are not together. */
    private static void withoutAnInn() {
        CaravanRoad road = new CaravanRoad();
        road.inn(0, 60, 60);
        road.inn(0, 60, 60);
        road.caravan(0, 1, 1, 0, 1, 5);
        road.caravan(0, 1, 1, 0, 1, 9);
        road.bale(0);
        road.look(0, 4, false);
        could("neither has begun", road, 0);
        CaravanRoad gone = new CaravanRoad();
        gone.inn(0, 60, 60);
        gone.inn(0, 60, 60);
        gone.caravan(0, 1, 1, 0, 1, 0);
        gone.caravan(0, 1, 1, 0, 1, 2);
        gone.bale(0);
        gone.look(0, 59, false);
        could("both are gone", gone, 0);
    }

    /** "as KNOWN by n": the looks, and the roads that are shut. */
    private static void asKnownBy() {
        CaravanRoad road = met();
        int told = road.count(3);
        road.look(0, 4, false);
        road.look(0, 1, true);
        road.look(0, 3, false);
        int[] dues = {-1, days(0, 4), days(2, 4), days(2, 3)};
        for (int i = 0; i < dues.length; i++) {
            due("by " + i + " looks", road.could(0, told + i), dues[i]);
        }
        CaravanRoad later = new CaravanRoad();
        later.inn(0, 60, 60);
        later.inn(0, 60, 60);
        later.caravan(0, 1, 1, 0, 1, 0);
        later.caravan(0, 1, 1, 0, 1, 1);
        later.bale(0);
        later.look(0, 1, false);
        later.shut(0, 1);
        due("without the shut road", later.could(0, 1), 0);
        due("with it", later.could(0, 2), 2);
    }

    /** "or no such ones". */
    private static void couldOfNoSuchOnes() {
        CaravanRoad road = met();
        road.look(0, 4, false);
        int n = road.count(3);
        could("could", road, days(0, 4));
        for (int x : new int[] {-1, -2, Integer.MIN_VALUE, Integer.MAX_VALUE}) {
            due("could of bale " + x, road.could(x, n), -1);
            due("could by " + x, road.could(0, x), -1);
        }
        due("could of bale 1", road.could(1, n), -1);
        due("could by one more", road.could(0, n + 1), -1);
        due("could by 0", road.could(0, 0), -1);
        due("of a new road", new CaravanRoad().could(0, 0), -1);
    }

    /** "1, if no LOOK up to it says broken; else 0": the look's own day counts. */
    private static void wholeUpToADay() {
        CaravanRoad road = met();
        int told = road.count(3);
        due("no look", road.sealed(0, 59, told), 1);
        road.look(0, 59, false);
        due("on the day ahead", road.sealed(0, 58, told + 1), 1);
        due("on the day", road.sealed(0, 59, told + 1), 0);
        due("as known without it", road.sealed(0, 59, told), 1);
        road.look(0, 0, false);
        due("on day 0", road.sealed(0, 0, told + 2), 0);
        due("on day 0 as known without it", road.sealed(0, 0, told + 1), 1);
    }

    /** "(from a broken one on for ever)": a whole one behind it, of a day or as told, mends nothing. */
    private static void brokenForEver() {
        CaravanRoad road = met();
        road.look(0, 5, false);
        road.look(0, 5, true);
        road.look(0, 6, true);
        road.look(0, 0, true);
        int n = road.count(3);
        int[][] dues = {{0, 1}, {4, 1}, {5, 0}, {6, 0}, {59, 0}};
        for (int[] d : dues) {
            due("sealed on day " + d[0], road.sealed(0, d[0], n), d[1]);
        }
        // A whole one that was told ahead of the broken one, of the same day.
        CaravanRoad other = met();
        other.look(0, 5, true);
        other.look(0, 5, false);
        due("whole, then broken", other.sealed(0, 5, other.count(3)), 0);
        due("the first is known", other.sealed(0, 5, other.count(3) - 1), 1);
    }

    /** "NONE: no such ones." */
    private static void sealedOfNoSuchOnes() {
        CaravanRoad road = met();
        int n = road.count(3);
        for (int x : new int[] {-1, -2, Integer.MIN_VALUE, Integer.MAX_VALUE}) {
            due("sealed of bale " + x, road.sealed(x, 0, n), -1);
            due("sealed on day " + x, road.sealed(0, x, n), -1);
            due("sealed by " + x, road.sealed(0, 0, x), -1);
        }
        due("sealed of bale 1", road.sealed(1, 0, n), -1);
        due("sealed on day 60", road.sealed(0, 60, n), -1);
        due("sealed by one more", road.sealed(0, 0, n + 1), -1);
        due("sealed by 0", road.sealed(0, 0, 0), 1);
        due("of a new road", new CaravanRoad().sealed(0, 0, 0), -1);
    }

    /**
     * Caravan 0 waits at inn 1 up to day 4 in front of a shut road; caravan 1 + d is in its room on the
     * evening of day d alone, for d from 0 to 4. Its bale is bale 0.
     */
    private static CaravanRoad met() {
        CaravanRoad road = new CaravanRoad();
        for (int i = 0; i < 3; i++) {
            road.inn(0, 60, 60);
            road.room(i, 20);
        }
        road.caravan(0, 1, 1, 1, 2, 0);
        for (int day = 0; day <= 4; day++) {
            road.caravan(0, 1, 1, 1, 0, day);
        }
        road.bale(0);
        for (int day = 1; day <= 4; day++) {
            road.shut(1, day);
        }
        return road;
    }

    /** The bits of those who were with caravan 0 on these days. */
    private static int days(int from, int to) {
        int bits = 0;
        for (int day = from; day <= to; day++) {
            bits |= 2 << day;
        }
        return bits;
    }

    /** Who could have broken it, by looks: days, each with 'w' (whole) or 'b' (broken). */
    private static void looks(int want, int... daysAndSeals) {
        CaravanRoad road = met();
        StringBuilder name = new StringBuilder("looks");
        for (int i = 0; i + 1 < daysAndSeals.length; i += 2) {
            road.look(0, daysAndSeals[i], daysAndSeals[i + 1] == 'w');
            name.append(' ').append(daysAndSeals[i]).append((char) daysAndSeals[i + 1]);
        }
        could(name.toString(), road, want);
    }

    private static void could(String name, CaravanRoad road, int want) {
        due(name, road.could(0, road.count(3)), want);
    }

    private static void due(String call, long got, long want) {
        CHECKS.due(call, got, want);
    }
}
