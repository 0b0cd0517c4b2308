/** Many small roads, each asked the same questions as the plain model of the document. */
public final class ModelTest {
    private static final int ROADS = 4000;
    private static final int TEXTS = 20000;
    // Twenty calls each time: no road is called more than 512 times.
    private static final int ASKED = 16;
    private static final Checks CHECKS = new Checks();
    private static final String[] VARS =
        {"kind", "beasts", "guards", "bales", "hungry", "day", "inn", "late"};
    private static final String[] ODD = {"", " ", ";", "(", ")", "=", "==", "<", "<=", "!", "!=", "+", "-",
        "*", "if", "or", "and", "first", "toll", "bar", "12345", "7", "lates", "firstkind", "A", "\t",
        "\u0000", "\u00ff", "((((((", "toll 5 1;"};

    // A row of numbers that is the same in every run.
    private long seed;

    private ModelTest(long start) {
        seed = start;
    }

    public static void main(String[] args) {
        for (int i = 0; i < TEXTS; i++) {
            new ModelTest(i).text("text " + i);
        }
        for (int i = 0; i < ROADS; i++) {
            new ModelTest(1000000L + i).road("road " + i);
        }
        CHECKS.end();
    }

    private int below(int bound) {
        seed = seed * 6364136223846793005L + 1442695040888963407L;
        long mixed = (seed ^ seed >>> 29) * 0x9E3779B97F4A7C15L;
        return (int) ((mixed >>> 33) % bound);
    }

    private int from(int least, int most) {
        return least + below(most - least + 1);
    }

    private void text(String name) {
        StringBuilder text = new StringBuilder(rules(below(8) == 0 ? from(15, 24) : below(6)));
        for (int i = below(3); i > 0; i--) {
            int at = below(text.length() + 1);
            text.replace(at, Math.min(text.length(), at + below(3)), ODD[below(ODD.length)]);
        }
        if (text.length() > 2000) {
            text.setLength(2000);
        }
        CaravanRoad road = new CaravanRoad();
        PlainRoad plain = new PlainRoad();
        CHECKS.due(name + " read: " + text, Checks.read(road, text.toString()), plain.read(text.toString()));
        CHECKS.due(name + " place: " + text, road.place(), plain.place);
        CHECKS.due(name + " rules: " + text, road.count(4), plain.rules.size());
    }

    private String rules(int number) {
        StringBuilder text = new StringBuilder();
        for (int i = 0; i < number; i++) {
            switch (below(3)) {
                case 0 -> text.append("first ").append(expression(below(3)));
                case 1 -> text.append("toll ").append(below(3)).append(blank()).append(expression(below(3)));
                default -> text.append("bar").append(below(3));
            }
            if (text.charAt(text.length() - 2) == 'r' || below(2) == 0) {
                text.append(" if ").append(condition());
            }
            text.append(blank()).append(";");
        }
        return text.toString();
    }

    private String blank() {
        return below(3) == 0 ? "\n" : " ";
    }

    private String condition() {
        StringBuilder text = new StringBuilder(relation());
        for (int i = below(3); i > 0; i--) {
            text.append(below(2) == 0 ? " and " : " or ").append(relation());
        }
        return text.toString();
    }

    private String relation() {
        String[] signs = {"==", "!=", "<", "<="};
        return expression(below(2)) + signs[below(4)] + expression(below(2));
    }

    private String expression(int depth) {
        StringBuilder text = new StringBuilder();
        for (int i = below(3); i >= 0; i--) {
            int sort = below(10);
            if (sort < 2 && depth > 0) {
                text.append("(").append(expression(depth - 1)).append(")");
            } else if (sort < 7) {
                text.append(VARS[below(VARS.length)]);
            } else {
                text.append(sort == 9 ? below(10000) : below(8));
            }
            text.append(i == 0 ? "" : " +-*".substring(1 + below(3)).substring(0, 1));
        }
        return text.toString();
    }

    private void road(String name) {
        CaravanRoad road = new CaravanRoad();
        PlainRoad plain = new PlainRoad();
        build(road, plain);
        for (int i = 0; i < ASKED; i++) {
            if (below(6) == 0) {
                change(name + " call " + i, road, plain);
            }
            ask(name + " call " + i, road, plain);
        }
    }

    private void build(CaravanRoad road, PlainRoad plain) {
        boolean isScarce = below(2) == 0;
        for (int i = from(2, 8); i > 0; i--) {
            int lord = below(3);
            int stalls = isScarce ? from(0, 40) : from(20, 60);
            int fodder = isScarce ? from(0, 15) : from(0, 60);
            int inn = road.inn(lord, stalls, fodder);
            plain.inn(lord, stalls, fodder);
            for (int r = below(4); r > 0; r--) {
                int size = isScarce ? from(1, 9) : from(1, 20);
                road.room(inn, size);
                plain.room(inn, size);
            }
        }
        for (int i = from(1, 6); i > 0; i--) {
            addCaravan(road, plain);
        }
        for (int i = from(1, below(2) == 0 ? 9 : 2); i > 0; i--) {
            int owner = below(plain.caravans.size());
            road.bale(owner);
            plain.bale(owner);
        }
        for (int i = below(40); i > 0; i--) {
            addFact(road, plain);
        }
        String text = rules(below(7));
        Checks.read(road, text);
        plain.read(text);
    }

    private void addCaravan(CaravanRoad road, PlainRoad plain) {
        int inns = plain.inns.size();
        int from = below(inns);
        int to = (from + from(1, inns - 1)) % inns;
        PlainRoad.Caravan c = new PlainRoad.Caravan(below(below(2) == 0 ? 4 : 2), from(1, below(2) == 0 ? 30 : 12),
                from(1, 9), from, to, below(below(8) == 0 ? 60 : 5));
        road.caravan(c.kind(), c.beasts(), c.guards(), c.from(), c.to(), c.day());
        plain.caravan(c);
    }

    private void addFact(CaravanRoad road, PlainRoad plain) {
        boolean isShut = below(2) == 0;
        int day = below(below(5) == 0 ? 60 : 9);
        boolean whole = !isShut && below(3) != 0;
        int subject = isShut ? below(plain.inns.size() - 1) : below(plain.bales.size());
        PlainRoad.Fact fact = new PlainRoad.Fact(isShut, subject, day, whole);
        plain.fact(fact);
        if (isShut) {
            road.shut(subject, day);
        } else {
            road.look(subject, day, whole);
        }
    }

    private void change(String name, CaravanRoad road, PlainRoad plain) {
        switch (below(5)) {
            case 0 -> addFact(road, plain);
            case 1 -> {
                if (plain.caravans.size() < 6) {
                    addCaravan(road, plain);
                }
            }
            case 2 -> {
                int owner = below(plain.caravans.size());
                road.bale(owner);
                plain.bale(owner);
            }
            case 3 -> {
                int inn = below(plain.inns.size());
                if (plain.inns.get(inn).rooms().size() < 3) {
                    road.room(inn, 5);
                    plain.room(inn, 5);
                }
            }
            default -> {
                String text = rules(below(5)) + (below(4) == 0 ? "bar" : "");
                CHECKS.due(name + " read", Checks.read(road, text), plain.read(text));
            }
        }
    }

    private void ask(String name, CaravanRoad road, PlainRoad plain) {
        int caravan = below(plain.caravans.size());
        int bale = below(plain.bales.size());
        int inn = below(plain.inns.size());
        int day = below(below(4) == 0 ? 60 : 14);
        int n = below(3) == 0 ? below(plain.facts.size() + 1) : plain.facts.size();
        for (int what = 0; what < 7; what++) {
            due(name + " state " + what, road.state(caravan, day, n, what), plain.state(caravan, day, n, what));
        }
        for (int what = 0; what < 4; what++) {
            due(name + " house " + what, road.house(inn, day, n, what), plain.house(inn, day, n, what));
        }
        for (int room = 0; room < 3; room++) {
            boolean isRoom = room < plain.inns.get(inn).rooms().size();
            due(name + " full", road.full(inn, room, day, n),
                    isRoom ? plain.full(inn, room, day, n) : PlainRoad.NO_SUCH);
        }
        due(name + " comes", road.comes(caravan, n), plain.comes(caravan, n));
        due(name + " barred", road.barred(caravan, day, n), plain.barred(caravan, day, n));
        due(name + " could", road.could(bale, n), plain.could(bale, n));
        due(name + " sealed", road.sealed(bale, day, n), plain.sealed(bale, day, n));
        int lord = below(5);
        due(name + " tolls", road.tolls(lord, day, n), plain.tolls(lord, day, n));
        due(name + " crowded", road.crowded(inn, day, n), plain.crowded(inn, day, n));
    }

    private static void due(String call, long got, long want) {
        CHECKS.due(call, got, want);
    }
}
