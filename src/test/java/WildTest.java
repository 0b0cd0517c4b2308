/**
 * Calls in any order with any arguments, right ones and wrong ones, nearly as many as an object is
 * used for: none throws, and each answers as the plain model behind a guard that refuses what the
 * document refuses.
 */
public final class WildTest {
    private static final int ROADS = 600;
    // Some of these are two calls: no road is called more than 512 times.
    private static final int CALLS = 440;
    private static final int NO_SUCH = -1000000;
    private static final Checks CHECKS = new Checks();
    private static final String[] PIECES = {"first ", "toll ", "bar ", " if ", " or ", " and ", "kind", "beasts",
        "guards", "bales", "hungry", "day", "inn", "late", ";", ";", ";", "+", "-", "*", "==", "!=", "<", "<=",
        "(", ")", "0", "1", "4", "5", "60", "9999", "12345", "@", "\t", "\n", "\u00ff", "=", "!", "firsts",
        "first 1;", "toll 1 beasts;", "bar 1 if day < 9;", "first late if hungry < 2;", "((((("};

    private final CaravanRoad road = new CaravanRoad();
    private final PlainRoad plain = new PlainRoad();
    private final StringBuilder tape = new StringBuilder();
    private final String name;
    // A row of numbers that is the same in every run.
    private long seed;
    // Many arguments of one road are wrong, few of another.
    private final int wildness;

    private WildTest(int number) {
        name = "road " + number;
        seed = 77777L + number;
        wildness = 3 + number % 5 * 20;
    }

    public static void main(String[] args) {
        for (int i = 0; i < ROADS; i++) {
            WildTest test = new WildTest(i);
            // What is told comes first, so that there is something to ask of.
            for (int call = 0; call < CALLS; call++) {
                test.call(call, call < 60 ? test.below(11) : test.below(21));
            }
        }
        CHECKS.end();
    }

    private int below(int bound) {
        seed = seed * 6364136223846793005L + 1442695040888963407L;
        long mixed = (seed ^ seed >>> 29) * 0x9E3779B97F4A7C15L;
        return (int) ((mixed >>> 33) % bound);
    }

    /** Mostly from least to most, at times next to its ends or at the ints' ends. */
    private int any(int least, int most) {
        if (below(wildness) == 0 || most < least) {
            int[] wild = {least - 1, most + 1, Integer.MIN_VALUE, Integer.MAX_VALUE};
            return wild[below(wild.length)];
        }
        int[] ends = {least, most};
        return below(4) == 0 ? ends[below(2)] : least + below(most - least + 1);
    }

    private static boolean is(int x, int least, int most) {
        return least <= x && x <= most;
    }

    private boolean isInn(int x) {
        return is(x, 0, plain.inns.size() - 1);
    }

    private boolean isCaravan(int x) {
        return is(x, 0, plain.caravans.size() - 1);
    }

    private boolean isBale(int x) {
        return is(x, 0, plain.bales.size() - 1);
    }

    private boolean isDay(int x) {
        return is(x, 0, 59);
    }

    private boolean isKnown(int x) {
        return is(x, 0, plain.facts.size());
    }

    private int anyInn() {
        return any(0, plain.inns.size() - 1);
    }

    private int anyCaravan() {
        return any(0, plain.caravans.size() - 1);
    }

    private int anyBale() {
        return any(0, plain.bales.size() - 1);
    }

    private int anyDay() {
        return below(2) == 0 ? any(0, 9) : any(0, 59);
    }

    private int anyN() {
        return any(0, plain.facts.size());
    }

    private void call(int number, int sort) {
        switch (sort) {
            case 0 -> inn(number);
            case 1, 2 -> room(number);
            case 3 -> caravan(number);
            case 4 -> bale(number);
            case 5 -> shut(number);
            case 6 -> look(number);
            case 7, 8 -> feed(number);
            case 9 -> back(number);
            case 10 -> read(number);
            default -> ask(number, sort);
        }
    }

    private void inn(int number) {
        int lord = any(0, 4);
        int stalls = any(0, 60);
        int fodder = any(0, 60);
        boolean isRight = plain.inns.size() < 8 && is(lord, 0, 4) && is(stalls, 0, 60) && is(fodder, 0, 60);
        due(number, "inn", road.inn(lord, stalls, fodder), isRight ? plain.inns.size() : -1);
        if (isRight) {
            plain.inn(lord, stalls, fodder);
        }
    }

    private void room(int number) {
        int inn = anyInn();
        int size = any(1, 20);
        boolean isRight = isInn(inn) && is(size, 1, 20) && plain.inns.get(inn).rooms().size() < 3;
        due(number, "room", road.room(inn, size), isRight ? plain.inns.get(inn).rooms().size() : -1);
        if (isRight) {
            plain.room(inn, size);
        }
    }

    private void caravan(int number) {
        PlainRoad.Caravan c = new PlainRoad.Caravan(any(0, 3), any(1, 30), any(1, 9), anyInn(), anyInn(), anyDay());
        boolean isRight = plain.caravans.size() < 6 && is(c.kind(), 0, 3) && is(c.beasts(), 1, 30)
                && is(c.guards(), 1, 9) && isInn(c.from()) && isInn(c.to()) && c.from() != c.to() && isDay(c.day());
        due(number, "caravan", road.caravan(c.kind(), c.beasts(), c.guards(), c.from(), c.to(), c.day()),
                isRight ? plain.caravans.size() : -1);
        if (isRight) {
            plain.caravan(c);
        }
    }

    private void bale(int number) {
        int owner = anyCaravan();
        boolean isRight = plain.bales.size() < 60 && isCaravan(owner);
        due(number, "bale", road.bale(owner), isRight ? plain.bales.size() : -1);
        if (isRight) {
            plain.bale(owner);
        }
    }

    private void shut(int number) {
        int i = any(0, plain.inns.size() - 2);
        int day = anyDay();
        boolean isRight = plain.facts.size() < 300 && is(i, 0, plain.inns.size() - 2) && isDay(day);
        due(number, "shut", road.shut(i, day), isRight ? plain.facts.size() : -1);
        if (isRight) {
            plain.fact(new PlainRoad.Fact(true, i, day, false));
        }
    }

    private void look(int number) {
        int bale = anyBale();
        int day = anyDay();
        boolean whole = below(3) != 0;
        boolean isRight = plain.facts.size() < 300 && isBale(bale) && isDay(day);
        due(number, "look", road.look(bale, day, whole), isRight ? plain.facts.size() : -1);
        if (isRight) {
            plain.fact(new PlainRoad.Fact(false, bale, day, whole));
        }
    }

    private void feed(int number) {
        StringBuilder bytes = new StringBuilder();
        while (bytes.length() < 20) {
            bytes.append(below(40) == 0 ? String.valueOf((char) below(256)) : PIECES[below(PIECES.length)]);
        }
        bytes.setLength(20);
        int[] words = new int[5];
        for (int i = 0; i < 20; i++) {
            words[i / 4] = words[i / 4] << 8 | bytes.charAt(i);
        }
        boolean isRight = tape.length() <= 1980;
        due(number, "feed", road.feed(words[0], words[1], words[2], words[3], words[4]),
                isRight ? tape.length() + 20 : -1);
        if (isRight) {
            tape.append(bytes);
        }
    }

    private void back(int number) {
        int n = below(3) == 0 ? any(0, tape.length()) : any(0, Math.min(12, tape.length()));
        boolean isRight = is(n, 0, tape.length());
        due(number, "back", road.back(n), isRight ? tape.length() - n : -1);
        if (isRight) {
            tape.setLength(tape.length() - n);
        }
    }

    private void read(int number) {
        due(number, "read of " + tape, road.read(), plain.read(tape.toString()));
        tape.setLength(0);
        due(number, "place", road.place(), plain.place);
    }

    private void ask(int number, int sort) {
        int c = anyCaravan();
        int inn = anyInn();
        int bale = anyBale();
        int day = anyDay();
        int n = anyN();
        boolean isTime = isDay(day) && isKnown(n);
        switch (sort) {
            case 11 -> {
                int what = any(0, 6);
                boolean isRight = isCaravan(c) && isTime && is(what, 0, 6);
                due(number, "state", road.state(c, day, n, what), isRight ? plain.state(c, day, n, what) : NO_SUCH);
            }
            case 12 -> {
                int what = any(0, 3);
                boolean isRight = isInn(inn) && isTime && is(what, 0, 3);
                due(number, "house", road.house(inn, day, n, what),
                        isRight ? plain.house(inn, day, n, what) : NO_SUCH);
            }
            case 13 -> {
                int room = any(0, 2);
                boolean isRight = isInn(inn) && isTime && is(room, 0, plain.inns.get(inn).rooms().size() - 1);
                due(number, "full", road.full(inn, room, day, n), isRight ? plain.full(inn, room, day, n) : NO_SUCH);
            }
            case 14 -> due(number, "comes", road.comes(c, n), isCaravan(c) && isKnown(n) ? plain.comes(c, n) : -1);
            case 15 -> due(number, "barred", road.barred(c, day, n),
                    isCaravan(c) && isTime ? plain.barred(c, day, n) : -1);
            case 16 -> due(number, "could", road.could(bale, n),
                    isBale(bale) && isKnown(n) ? plain.could(bale, n) : -1);
            case 17 -> due(number, "sealed", road.sealed(bale, day, n),
                    isBale(bale) && isTime ? plain.sealed(bale, day, n) : -1);
            case 18 -> {
                int lord = any(0, 4);
                due(number, "tolls", road.tolls(lord, day, n),
                        is(lord, 0, 4) && isTime ? plain.tolls(lord, day, n) : 0);
            }
            case 19 -> due(number, "crowded", road.crowded(inn, day, n),
                    isInn(inn) && isTime ? plain.crowded(inn, day, n) : -1);
            default -> count(number);
        }
    }

    private void count(int number) {
        int what = any(0, 5);
        int[] dues = {plain.inns.size(), plain.caravans.size(), plain.bales.size(), plain.facts.size(),
            plain.rules.size(), tape.length()};
        due(number, "count " + what, road.count(what), is(what, 0, 5) ? dues[what] : -1);
    }

    private void due(int number, String call, long got, long want) {
        CHECKS.due(name + ", call " + number + ", " + call, got, want);
    }
}
