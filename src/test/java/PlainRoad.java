import java.util.ArrayList;
import java.util.Arrays;
import java.util.Comparator;
import java.util.List;
import java.util.function.IntPredicate;
import java.util.regex.Matcher;
import java.util.regex.Pattern;

/**
 * The document once more, in the plainest form and by other means: rules as trees, a text read
 * by descent, all WAYS tried, every question answered from a new walk.
 */
final class PlainRoad {
    static final int NO_SUCH = -1000000;

    record Inn(int lord, int stalls, int fodder, List<Integer> rooms) { }

    record Caravan(int kind, int beasts, int guards, int from, int to, int day) { }

    record Fact(boolean isShut, int subject, int day, boolean whole) { }

    /** What a caravan is on one evening. */
    record Evening(int inn, int room, int hungry, int late, int tolls, int first, int bar) { }

    record Walk(Evening[][] evenings, int[][] fodder, int[][] gets) { }

    interface Expr {
        int of(int[] vars);
    }

    record Rule(String sort, int lord, Expr value, Expr condition) {
        boolean holds(int[] vars) {
            return condition == null || condition.of(vars) != 0;
        }
    }

    final List<Inn> inns = new ArrayList<>();
    final List<Caravan> caravans = new ArrayList<>();
    final List<Integer> bales = new ArrayList<>();
    final List<Fact> facts = new ArrayList<>();
    List<Rule> rules = List.of();
    int place = -1;
    private Walk walk;
    private int walkedBy = -1;

    void inn(int lord, int stalls, int fodder) {
        inns.add(new Inn(lord, stalls, fodder, new ArrayList<>()));
        walkedBy = -1;
    }

    void room(int inn, int size) {
        inns.get(inn).rooms.add(size);
        walkedBy = -1;
    }

    void caravan(Caravan c) {
        caravans.add(c);
        walkedBy = -1;
    }

    void bale(int caravan) {
        bales.add(caravan);
        walkedBy = -1;
    }

    void fact(Fact f) {
        facts.add(f);
    }

    int read(String text) {
        walkedBy = -1;
        try {
            rules = new Text(text).rules();
            place = -1;
            return 0;
        } catch (Fault f) {
            place = f.place;
            return f.number;
        }
    }

    int state(int c, int day, int n, int what) {
        Evening e = walk(n).evenings[c][day];
        return switch (what) {
            case 0 -> e.inn;
            case 1 -> e.room;
            case 2 -> e.hungry;
            case 3 -> e.late;
            case 4 -> e.tolls;
            case 5 -> e.inn >= 0 && e.room < 0 ? 1 : 0;
            default -> e.first;
        };
    }

    int house(int inn, int day, int n, int what) {
        return switch (what) {
            case 0 -> sum(inn, day, n, room -> room >= 0, true);
            case 1 -> walk(n).fodder[inn][day];
            case 2 -> count(inn, day, n, room -> room >= 0);
            default -> count(inn, day, n, room -> room < 0);
        };
    }

    int full(int inn, int wanted, int day, int n) {
        return sum(inn, day, n, room -> room == wanted, false);
    }

    private int sum(int inn, int day, int n, IntPredicate rooms, boolean ofBeasts) {
        int sum = 0;
        for (int c = 0; c < caravans.size(); c++) {
            Evening e = walk(n).evenings[c][day];
            if (e.inn == inn && rooms.test(e.room)) {
                sum += ofBeasts ? caravans.get(c).beasts : caravans.get(c).guards;
            }
        }
        return sum;
    }

    private int count(int inn, int day, int n, IntPredicate rooms) {
        int count = 0;
        for (int c = 0; c < caravans.size(); c++) {
            Evening e = walk(n).evenings[c][day];
            count += e.inn == inn && rooms.test(e.room) ? 1 : 0;
        }
        return count;
    }

    int comes(int c, int n) {
        for (int day = 0; day < 60; day++) {
            if (state(c, day, n, 0) == caravans.get(c).to) {
                return day;
            }
        }
        return -1;
    }

    int barred(int c, int day, int n) {
        return walk(n).evenings[c][day].bar;
    }

    int tolls(int lord, int day, int n) {
        return walk(n).gets[lord][day];
    }

    int crowded(int inn, int a, int n) {
        for (int day = a; day < 60; day++) {
            if (house(inn, day, n, 3) > 0) {
                return day;
            }
        }
        return -1;
    }

    int could(int bale, int n) {
        List<Fact> looks = new ArrayList<>();
        for (Fact f : facts.subList(0, n)) {
            if (!f.isShut && f.subject == bale) {
                looks.add(f);
            }
        }
        looks.sort(Comparator.comparingInt(Fact::day));
        Fact whole = null;
        for (Fact f : looks) {
            if (!f.whole) {
                return suspects(bales.get(bale), whole, f, n);
            }
            whole = f;
        }
        return -1;
    }

    private int suspects(int own, Fact whole, Fact broken, int n) {
        int bits = 0;
        for (int day = 0; day <= broken.day; day++) {
            boolean counts = whole == null || day > whole.day
                    || whole.day == broken.day && day == whole.day;
            for (int c = 0; counts && c < caravans.size(); c++) {
                Evening mine = walk(n).evenings[own][day];
                Evening other = walk(n).evenings[c][day];
                if (c != own && mine.inn >= 0 && mine.inn == other.inn && mine.room == other.room) {
                    bits |= 1 << c;
                }
            }
        }
        return bits;
    }

    int sealed(int bale, int day, int n) {
        for (Fact f : facts.subList(0, n)) {
            if (!f.isShut && f.subject == bale && f.day <= day && !f.whole) {
                return 0;
            }
        }
        return 1;
    }

    private Walk walk(int n) {
        if (walkedBy != n) {
            walk = walkAnew(n);
            walkedBy = n;
        }
        return walk;
    }

    private Walk walkAnew(int n) {
        int many = caravans.size();
        Walk w = new Walk(new Evening[many][60], new int[inns.size()][60], new int[5][60]);
        Evening[] now = new Evening[many];
        Arrays.fill(now, new Evening(-1, -1, 0, 0, 0, 0, -1));
        int[] stores = new int[inns.size()];
        int[] gets = new int[5];
        for (int day = 0; day < 60; day++) {
            for (int c = 0; c < many; c++) {
                now[c] = morning(c, now[c], day, n, gets);
            }
            for (int c = 0; c < many; c++) {
                now[c] = ranked(c, now[c], day);
            }
            for (int inn = 0; inn < inns.size(); inn++) {
                stores[inn] = evening(inn, now, stores[inn]);
                w.fodder[inn][day] = stores[inn];
            }
            for (int c = 0; c < many; c++) {
                w.evenings[c][day] = now[c];
            }
            for (int lord = 0; lord < 5; lord++) {
                w.gets[lord][day] = gets[lord];
            }
        }
        return w;
    }

    private int[] vars(int c, Evening e, int day, int inn) {
        Caravan a = caravans.get(c);
        int load = (int) bales.stream().filter(owner -> owner == c).count();
        return new int[] {a.kind, a.beasts, a.guards, load, e.hungry, day, inn, e.late};
    }

    private Evening morning(int c, Evening e, int day, int n, int[] gets) {
        Caravan a = caravans.get(c);
        if (e.inn < 0 || e.inn == a.to) {
            return new Evening(-1, -1, e.hungry, e.late, e.tolls, 0, -1);
        }
        int next = e.inn + Integer.signum(a.to - e.inn);
        int lord = inns.get(next).lord;
        int[] vars = vars(c, e, day, next);
        int bar = -1;
        for (int r = rules.size() - 1; r >= 0; r--) {
            Rule rule = rules.get(r);
            if (rule.sort.equals("bar") && rule.lord == lord && rule.holds(vars)) {
                bar = r;
            }
        }
        boolean isShut = facts.subList(0, n).stream().anyMatch(f ->
                f.isShut && f.day == day && f.subject == Math.min(next, e.inn));
        if (bar >= 0 || isShut || e.hungry >= 3) {
            return new Evening(e.inn, -1, e.hungry, e.late, e.tolls, 0, bar);
        }
        int toll = 0;
        if (lord != inns.get(e.inn).lord) {
            toll = Math.max(0, value("toll", lord, vars));
            gets[lord] += toll;
        }
        return new Evening(next, -1, e.hungry, e.late, e.tolls + toll, 0, bar);
    }

    private int value(String sort, int lord, int[] vars) {
        for (Rule rule : rules) {
            if (rule.sort.equals(sort) && rule.lord == lord && rule.holds(vars)) {
                return rule.value.of(vars);
            }
        }
        return 0;
    }

    private Evening ranked(int c, Evening e, int day) {
        int inn = caravans.get(c).day == day ? caravans.get(c).from : e.inn;
        int first = inn < 0 ? 0 : value("first", -1, vars(c, e, day, inn));
        return new Evening(inn, -1, e.hungry, e.late, e.tolls, first, e.bar);
    }

    private int evening(int inn, Evening[] now, int stored) {
        List<Integer> order = new ArrayList<>();
        for (int c = 0; c < now.length; c++) {
            if (now[c].inn == inn) {
                order.add(c);
            }
        }
        order.sort((a, b) -> now[a].first != now[b].first
                ? Integer.compare(now[b].first, now[a].first) : Integer.compare(a, b));
        int[] rooms = bestWay(inns.get(inn), order);
        int store = Math.min(200, stored + inns.get(inn).fodder);
        for (int i = 0; i < order.size(); i++) {
            int c = order.get(i);
            Evening e = now[c];
            boolean eats = caravans.get(c).beasts <= store;
            store -= eats ? caravans.get(c).beasts : 0;
            now[c] = new Evening(inn, rooms[i], eats ? 0 : e.hungry + 1,
                    e.late + (rooms[i] < 0 ? 1 : 0), e.tolls, e.first, e.bar);
        }
        return store;
    }

    /** Tries every way; room -1 is outside. */
    private int[] bestWay(Inn inn, List<Integer> order) {
        int choices = inn.rooms.size() + 1;
        int ways = (int) Math.pow(choices, order.size());
        int[] best = null;
        for (int w = 0; w < ways; w++) {
            int[] way = new int[order.size()];
            int rest = w;
            for (int i = 0; i < way.length; i++) {
                way[i] = rest % choices - 1;
                rest /= choices;
            }
            if (isWay(inn, order, way) && (best == null || isBetter(way, best))) {
                best = way;
            }
        }
        return best;
    }

    private boolean isWay(Inn inn, List<Integer> order, int[] way) {
        int beasts = 0;
        int[] guards = new int[inn.rooms.size()];
        for (int i = 0; i < way.length; i++) {
            Caravan a = caravans.get(order.get(i));
            if (way[i] >= 0) {
                beasts += a.beasts;
                guards[way[i]] += a.guards;
                for (int k = 0; k < i; k++) {
                    if (way[k] == way[i] && caravans.get(order.get(k)).kind != a.kind) {
                        return false;
                    }
                }
            }
        }
        for (int r = 0; r < guards.length; r++) {
            if (guards[r] > inn.rooms.get(r)) {
                return false;
            }
        }
        return beasts <= inn.stalls;
    }

    private static boolean isBetter(int[] a, int[] b) {
        for (int i = 0; i < a.length; i++) {
            if (a[i] < 0 != b[i] < 0) {
                return a[i] >= 0;
            }
        }
        return Arrays.compare(a, b) < 0;
    }

    private static final class Fault extends Exception {
        private static final long serialVersionUID = 1;
        final int number;
        final int place;

        Fault(int number, int place) {
            this.number = number;
            this.place = place;
        }
    }

    /** A text, read by descent. */
    private static final class Text {
        private static final Pattern TOKEN =
                Pattern.compile("[a-z]+|[0-9]+|==|!=|<=|[;+*<()-]|[^\\t\\n\\r ]");
        private static final List<String> VARS =
                List.of("kind", "beasts", "guards", "bales", "hungry", "day", "inn", "late");
        private final List<String> tokens = new ArrayList<>();
        private final List<Integer> places = new ArrayList<>();
        private int at = 0;
        private int wrong = -1;

        Text(String text) {
            Matcher m = TOKEN.matcher(text);
            while (m.find()) {
                tokens.add(m.group());
                places.add(m.start());
            }
            tokens.add("");
            places.add(text.length());
        }

        List<Rule> rules() throws Fault {
            List<Rule> rules = new ArrayList<>();
            while (!peek("")) {
                if (!peek("first", "toll", "bar")) {
                    throw fault(1);
                }
                if (rules.size() == 20) {
                    throw fault(2);
                }
                rules.add(rule());
            }
            if (wrong >= 0) {
                throw new Fault(5, wrong);
            }
            return rules;
        }

        private Rule rule() throws Fault {
            String sort = take();
            int lord = -1;
            if (!sort.equals("first")) {
                int place = places.get(at);
                lord = number();
                wrong = lord > 4 && wrong < 0 ? place : wrong;
            }
            Expr value = sort.equals("bar") ? null : sum(0);
            Expr condition = null;
            if (sort.equals("bar") || peek("if")) {
                expect("if");
                condition = any();
            }
            expect(";");
            return new Rule(sort, lord, value, condition);
        }

        private Expr any() throws Fault {
            Expr left = all();
            while (peek("or")) {
                take();
                Expr l = left;
                Expr r = all();
                left = v -> l.of(v) != 0 || r.of(v) != 0 ? 1 : 0;
            }
            return left;
        }

        private Expr all() throws Fault {
            Expr left = relation();
            while (peek("and")) {
                take();
                Expr l = left;
                Expr r = relation();
                left = v -> l.of(v) != 0 && r.of(v) != 0 ? 1 : 0;
            }
            return left;
        }

        private Expr relation() throws Fault {
            Expr l = sum(0);
            if (!peek("==", "!=", "<", "<=")) {
                throw fault(1);
            }
            String sign = take();
            Expr r = sum(0);
            return switch (sign) {
                case "==" -> v -> l.of(v) == r.of(v) ? 1 : 0;
                case "!=" -> v -> l.of(v) != r.of(v) ? 1 : 0;
                case "<" -> v -> l.of(v) < r.of(v) ? 1 : 0;
                default -> v -> l.of(v) <= r.of(v) ? 1 : 0;
            };
        }

        private Expr sum(int depth) throws Fault {
            Expr left = product(depth);
            while (peek("+", "-")) {
                boolean isPlus = take().equals("+");
                Expr l = left;
                Expr r = product(depth);
                left = v -> isPlus ? l.of(v) + r.of(v) : l.of(v) - r.of(v);
            }
            return left;
        }

        private Expr product(int depth) throws Fault {
            Expr left = unit(depth);
            while (peek("*")) {
                take();
                Expr l = left;
                Expr r = unit(depth);
                left = v -> l.of(v) * r.of(v);
            }
            return left;
        }

        private Expr unit(int depth) throws Fault {
            int variable = VARS.indexOf(tokens.get(at));
            if (variable >= 0) {
                take();
                return v -> v[variable];
            }
            if (!peek("(")) {
                int number = number();
                return v -> number;
            }
            if (depth == 6) {
                throw fault(2);
            }
            take();
            Expr inside = sum(depth + 1);
            expect(")");
            return inside;
        }

        private int number() throws Fault {
            if (!tokens.get(at).matches("[0-9]{1,4}")) {
                throw fault(1);
            }
            return Integer.parseInt(take());
        }

        private void expect(String token) throws Fault {
            if (!peek(token)) {
                throw fault(1);
            }
            take();
        }

        private boolean peek(String... wanted) {
            return List.of(wanted).contains(tokens.get(at));
        }

        private String take() throws Fault {
            if (at == 400) {
                throw fault(2);
            }
            at++;
            return tokens.get(at - 1);
        }

        private Fault fault(int number) {
            return new Fault(number, places.get(at));
        }
    }
}
