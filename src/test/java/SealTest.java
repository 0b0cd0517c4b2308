/** Promises 17 and 18: who could have broken a seal, and whether it is whole. */
public final class SealTest {
    private static final Checks CHECKS = new Checks();

    public static void main(String[] args) {
        noLookNoSuspect();
        betweenTheLooks();
        looksOfOneDay();
        looksOutOfTheirOrder();
        knownByN();
        roomsAndOutside();
        otherBales();
        sealed();
        CHECKS.end();
    }

    /**
     * Caravan 0 is at inn 0 on days 0 to 3 (its road is shut), in the only room; with it in the room on
     * day 0 caravan 1, on day 2 caravan 2, on day 3 caravan 3. Its bale is bale 0. Three facts shut the road.
     */
    private static CaravanRoad inn() {
        CaravanRoad road = new CaravanRoad();
        for (int i = 0; i < 4; i++) {
            road.inn(0, 60, 60);
            road.room(i, 20);
        }
        road.caravan(0, 1, 1, 1, 2, 0);
        road.caravan(0, 1, 1, 1, 0, 0);
        road.caravan(0, 1, 1, 1, 0, 2);
        road.caravan(0, 1, 1, 1, 0, 3);
        road.bale(0);
        road.shut(1, 1);
        road.shut(1, 2);
        road.shut(1, 3);
        return road;
    }

    private static void noLookNoSuspect() {
        CaravanRoad road = inn();
        could(road, 0, -1);
        road.look(0, 5, true);
        could(road, 0, -1);
    }

    private static void betweenTheLooks() {
        could(withLooks(3, 'b'), 0, 2 | 4 | 8);
        could(withLooks(2, 'b'), 0, 2 | 4);
        could(withLooks(1, 'b'), 0, 2);
        could(withLooks(0, 'b'), 0, 2);
        could(withLooks(0, 'w', 3, 'b'), 0, 4 | 8);
        could(withLooks(1, 'w', 3, 'b'), 0, 4 | 8);
        could(withLooks(2, 'w', 3, 'b'), 0, 8);
        could(withLooks(0, 'w', 1, 'b'), 0, 0);
        could(withLooks(0, 'w', 1, 'w', 2, 'b', 3, 'b'), 0, 4);
        could(withLooks(0, 'w', 1, 'b', 2, 'w', 3, 'b'), 0, 0);
        could(withLooks(0, 'w', 59, 'b'), 0, 4 | 8);
        could(withLooks(3, 'w', 59, 'b'), 0, 0);
    }

    private static void looksOfOneDay() {
        could(withLooks(3, 'w', 3, 'b'), 0, 8);
        could(withLooks(3, 'b', 3, 'w'), 0, 2 | 4 | 8);
        could(withLooks(1, 'w', 2, 'b', 2, 'w'), 0, 4);
        could(withLooks(1, 'w', 2, 'w', 2, 'b', 2, 'w'), 0, 4);
        could(withLooks(2, 'b', 2, 'w', 2, 'b'), 0, 2 | 4);
        could(withLooks(0, 'w', 3, 'b', 3, 'w', 3, 'b'), 0, 4 | 8);
        could(withLooks(0, 'w', 0, 'b'), 0, 2);
        could(withLooks(1, 'w', 1, 'b'), 0, 0);
    }

    private static void looksOutOfTheirOrder() {
        could(withLooks(3, 'b', 0, 'w'), 0, 4 | 8);
        could(withLooks(3, 'b', 2, 'b'), 0, 2 | 4);
        could(withLooks(3, 'b', 2, 'b', 1, 'w', 0, 'w'), 0, 4);
        could(withLooks(3, 'w', 2, 'b'), 0, 2 | 4);
    }

    private static void knownByN() {
        CaravanRoad road = withLooks(3, 'b', 2, 'w', 2, 'b');
        due("by 3", road.could(0, 3), -1);
        due("by 4", road.could(0, 4), 2 | 4 | 8);
        due("by 5", road.could(0, 5), 8);
        due("by 6", road.could(0, 6), 4);
        due("by 7", road.could(0, 7), -1);
        // Without the shut road the caravan was at its goal on day 1 and met caravan 1 alone.
        CaravanRoad other = new CaravanRoad();
        other.inn(0, 60, 60);
        other.inn(0, 60, 60);
        other.room(0, 20);
        other.caravan(0, 1, 1, 0, 1, 0);
        other.caravan(0, 1, 1, 0, 1, 1);
        other.bale(0);
        other.look(0, 9, false);
        other.shut(0, 1);
        due("as known without the shut road", other.could(0, 1), 0);
        due("as known with it", other.could(0, 2), 2);
    }

    private static void roomsAndOutside() {
        CaravanRoad road = new CaravanRoad();
        road.inn(0, 60, 60);
        road.inn(0, 60, 60);
        road.room(0, 2);
        road.room(0, 2);
        road.room(1, 20);
        int[] kinds = {0, 1, 0, 2, 3, 2};
        for (int c = 0; c < 6; c++) {
            road.caravan(kinds[c], 1, 1, 0, 1, c == 5 ? 1 : 0);
            road.bale(c);
            road.look(c, 0, false);
        }
        // 0 and 2 in room 0, 1 in room 1, 3 and 4 outside, 5 not yet there.
        int[] dues = {1 << 2, 0, 1, 1 << 4, 1 << 3, 0};
        for (int c = 0; c < 6; c++) {
            due("could of bale " + c, road.could(c, 6), dues[c]);
        }
        // Outside at another inn is not outside with it.
        CaravanRoad apart = new CaravanRoad();
        apart.inn(0, 0, 0);
        apart.inn(0, 0, 0);
        apart.caravan(0, 1, 1, 0, 1, 0);
        apart.caravan(0, 1, 1, 1, 0, 0);
        apart.bale(0);
        apart.look(0, 59, false);
        due("outside at another inn", apart.could(0, 1), 0);
        due("neither has an inn", apart.state(1, 5, 1, 0), -1);
    }

    private static void otherBales() {
        CaravanRoad road = inn();
        road.bale(1);
        road.bale(0);
        road.look(1, 0, false);
        road.look(2, 2, false);
        road.look(1, 0, true);
        could(road, 0, -1);
        could(road, 1, 1);
        could(road, 2, 2 | 4);
        due("sealed 0", road.sealed(0, 59, 6), 1);
        due("sealed 1", road.sealed(1, 59, 6), 0);
    }

    private static void sealed() {
        CaravanRoad road = withLooks(9, 'b', 20, 'w', 5, 'b', 0, 'w');
        int[][] dues = {{3, 59, 1}, {4, 8, 1}, {4, 9, 0}, {4, 59, 0}, {5, 20, 0}, {5, 8, 1}, {6, 8, 0},
            {6, 5, 0}, {6, 4, 1}, {7, 4, 1}, {7, 0, 1}, {7, 59, 0}};
        for (int[] d : dues) {
            due("sealed on " + d[1] + " by " + d[0], road.sealed(0, d[1], d[0]), d[2]);
        }
    }

    /** The inn with looks at bale 0: days, each with 'w' (whole) or 'b' (broken). */
    private static CaravanRoad withLooks(int... daysAndSeals) {
        CaravanRoad road = inn();
        for (int i = 0; i + 1 < daysAndSeals.length; i += 2) {
            road.look(0, daysAndSeals[i], daysAndSeals[i + 1] == 'w');
        }
        return road;
    }

    private static void could(CaravanRoad road, int bale, int want) {
        due("could(" + bale + ")", road.could(bale, road.count(3)), want);
    }

    private static void due(String call, long got, long want) {
        CHECKS.due(call, got, want);
    }
}
