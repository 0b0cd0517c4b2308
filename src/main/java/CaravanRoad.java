/**
 * A road of inns a day apart, the caravans on it, the lords' rules, and the seals of the bales.
 *
 * <p>The document ../shared/DOC.md tells what each call answers. Nothing is worked out when
 * something is told: the road is walked anew, day by day, when a question needs it and what is
 * known has changed since the last walk.
 */
public final class CaravanRoad {
    public static final int NONE = -1;

    private static final int NO_SUCH = -1000000;

    private static final int INNS_MAX = 8;
    private static final int ROOMS_MAX = 3;
    private static final int CARAVANS_MAX = 6;
    private static final int BALES_MAX = 60;
    private static final int FACTS_MAX = 300;
    private static final int DAYS = 60;
    private static final int LORDS = 5;
    private static final int KINDS = 4;
    private static final int STALLS_MAX = 60;
    private static final int FODDER_MAX = 60;
    private static final int SIZE_MAX = 20;
    private static final int BEASTS_MAX = 30;
    private static final int GUARDS_MAX = 9;
    private static final int STORE_MAX = 200;
    private static final int TOO_HUNGRY = 3;

    private static final int TAPE_MAX = 2000;
    private static final int FEED_BYTES = 20;
    private static final int TOKENS_MAX = 400;
    private static final int RULES_MAX = 20;
    private static final int NESTED_MAX = 6;
    private static final int WORD_MAX = 8;
    private static final int INT_MAX = 4;

    // Six parentheses leave at most some two dozen operators or operands waiting.
    private static final int WAITING_MAX = 32;

    private static final int SYNTAX = 1;
    private static final int ROOM = 2;
    private static final int WRONG = 5;

    // The tokens. Those of the words stand in the order of WORDS.
    private static final int END = 0;
    private static final int STRANGE = 1;
    private static final int INT = 2;
    private static final int FIRST = 3;
    private static final int TOLL = 4;
    private static final int BAR = 5;
    private static final int IF = 6;
    private static final int OR = 7;
    private static final int AND = 8;
    private static final int KIND = 9;
    private static final int LATE = 16;
    private static final int SEMICOLON = 17;
    private static final int PLUS = 18;
    private static final int MINUS = 19;
    private static final int TIMES = 20;
    private static final int EQUAL = 21;
    private static final int UNEQUAL = 22;
    private static final int LESS = 23;
    private static final int AT_MOST = 24;
    private static final int OPEN = 25;
    private static final int CLOSE = 26;

    private static final String WORDS =
            "first toll bar if or and kind beasts guards bales hungry day inn late ";
    private static final int VARS = LATE - KIND + 1;

    // What the reader waits for.
    private static final int AT_RULE = 0;
    private static final int AT_LORD = 1;
    private static final int AT_IF = 2;
    private static final int AT_UNIT = 3;
    private static final int BEHIND_UNIT = 4;

    // In which part of a rule the reader is: its value, or a side of a relation.
    private static final int IN_VALUE = 0;
    private static final int IN_LEFT = 1;
    private static final int IN_RIGHT = 2;

    private final Tape tape;
    private final Reader reader;
    private final Land land;
    private final Facts facts;
    private final Journey journey;
    private RuleBook book;
    private RuleBook draft;

    public CaravanRoad() {
        Tape newTape = new Tape();
        Land newLand = new Land();
        Facts newFacts = new Facts();
        tape = newTape;
        reader = new Reader(newTape);
        land = newLand;
        facts = newFacts;
        journey = new Journey(newLand, newFacts);
        book = new RuleBook();
        draft = new RuleBook();
    }

    public int feed(int a, int b, int c, int d, int e) {
        if (tape.length > TAPE_MAX - FEED_BYTES) {
            return NONE;
        }
        tape.append(a);
        tape.append(b);
        tape.append(c);
        tape.append(d);
        tape.append(e);
        return tape.length;
    }

    public int back(int n) {
        if (!isWithin(n, 0, tape.length)) {
            return NONE;
        }
        tape.length -= n;
        return tape.length;
    }

    public int read() {
        int fault = reader.parse(draft);
        tape.length = 0;
        if (fault == 0) {
            RuleBook old = book;
            book = draft;
            draft = old;
            journey.forget();
        }
        return fault;
    }

    public int place() {
        return reader.faultPlace;
    }

    public int inn(int lord, int stalls, int fodder) {
        int number = land.inns;
        if (number >= INNS_MAX || !isLord(lord)
                || !isWithin(stalls, 0, STALLS_MAX) || !isWithin(fodder, 0, FODDER_MAX)) {
            return NONE;
        }
        land.lord[number] = lord;
        land.stalls[number] = stalls;
        land.fodder[number] = fodder;
        land.inns = number + 1;
        journey.forget();
        return number;
    }

    public int room(int inn, int size) {
        if (!land.hasInn(inn) || !isWithin(size, 1, SIZE_MAX)) {
            return NONE;
        }
        int number = land.rooms[inn];
        if (number >= ROOMS_MAX) {
            return NONE;
        }
        land.size[inn][number] = size;
        land.rooms[inn] = number + 1;
        journey.forget();
        return number;
    }

    public int caravan(int kind, int beasts, int guards, int from, int to, int day) {
        int number = land.caravans;
        boolean isCaravan = isWithin(kind, 0, KINDS - 1) && isWithin(beasts, 1, BEASTS_MAX)
                && isWithin(guards, 1, GUARDS_MAX);
        boolean isWay = land.hasInn(from) && land.hasInn(to) && from != to && isDay(day);
        if (number >= CARAVANS_MAX || !isCaravan || !isWay) {
            return NONE;
        }
        land.kind[number] = kind;
        land.beasts[number] = beasts;
        land.guards[number] = guards;
        land.from[number] = from;
        land.to[number] = to;
        land.begins[number] = day;
        land.caravans = number + 1;
        journey.forget();
        return number;
    }

    public int bale(int caravan) {
        int number = land.bales;
        if (number >= BALES_MAX || !land.hasCaravan(caravan)) {
            return NONE;
        }
        land.owner[number] = caravan;
        land.load[caravan]++;
        land.bales = number + 1;
        journey.forget();
        return number;
    }

    public int shut(int i, int day) {
        // The inn behind i must be there, too.
        if (!isWithin(i, 0, land.inns - 2) || !isDay(day)) {
            return NONE;
        }
        return facts.addShut(i, day);
    }

    public int look(int bale, int day, boolean whole) {
        if (!land.hasBale(bale) || !isDay(day)) {
            return NONE;
        }
        return facts.addLook(bale, day, whole);
    }

    public int state(int caravan, int day, int n, int what) {
        if (!land.hasCaravan(caravan) || !isDay(day) || !facts.isKnown(n)) {
            return NO_SUCH;
        }
        journey.walk(book, n);
        switch (what) {
            case 0:
                return journey.innOf[caravan][day];
            case 1:
                return journey.roomOf[caravan][day];
            case 2:
                return journey.hungry[caravan][day];
            case 3:
                return journey.late[caravan][day];
            case 4:
                return journey.paid[caravan][day];
            case 5:
                return journey.isOutside(caravan, day) ? 1 : 0;
            case 6:
                return journey.first[caravan][day];
            default:
                return NO_SUCH;
        }
    }

    public int house(int inn, int day, int n, int what) {
        if (!land.hasInn(inn) || !isDay(day) || !facts.isKnown(n)) {
            return NO_SUCH;
        }
        journey.walk(book, n);
        switch (what) {
            case 0:
                return journey.beastsInStalls(inn, day);
            case 1:
                return journey.left[inn][day];
            case 2:
                return journey.guests(inn, day, true);
            case 3:
                return journey.guests(inn, day, false);
            default:
                return NO_SUCH;
        }
    }

    public int full(int inn, int room, int day, int n) {
        if (!land.hasInn(inn) || !isWithin(room, 0, land.rooms[inn] - 1)
                || !isDay(day) || !facts.isKnown(n)) {
            return NO_SUCH;
        }
        journey.walk(book, n);
        return journey.guardsInRoom(inn, room, day);
    }

    public int comes(int caravan, int n) {
        if (!land.hasCaravan(caravan) || !facts.isKnown(n)) {
            return NONE;
        }
        journey.walk(book, n);
        for (int day = 0; day < DAYS; day++) {
            if (journey.innOf[caravan][day] == land.to[caravan]) {
                return day;
            }
        }
        return NONE;
    }

    public int barred(int caravan, int day, int n) {
        if (!land.hasCaravan(caravan) || !isDay(day) || !facts.isKnown(n)) {
            return NONE;
        }
        journey.walk(book, n);
        return journey.barring[caravan][day];
    }

    public int could(int bale, int n) {
        if (!land.hasBale(bale) || !facts.isKnown(n)) {
            return NONE;
        }
        int broken = facts.firstBroken(bale, n);
        if (broken == NONE) {
            return NONE;
        }
        journey.walk(book, n);
        int last = facts.day[broken];
        int suspects = 0;
        for (int day = facts.firstSuspectDay(bale, n, broken); day <= last && day < DAYS; day++) {
            suspects |= journey.companions(land.owner[bale], day);
        }
        return suspects;
    }

    public int sealed(int bale, int day, int n) {
        if (!land.hasBale(bale) || !isDay(day) || !facts.isKnown(n)) {
            return NONE;
        }
        int broken = facts.firstBroken(bale, n);
        return broken == NONE || facts.day[broken] > day ? 1 : 0;
    }

    public int tolls(int lord, int day, int n) {
        if (!isLord(lord) || !isDay(day) || !facts.isKnown(n)) {
            return 0;
        }
        journey.walk(book, n);
        return journey.gets[lord][day];
    }

    public int crowded(int inn, int a, int n) {
        if (!land.hasInn(inn) || !isDay(a) || !facts.isKnown(n)) {
            return NONE;
        }
        journey.walk(book, n);
        for (int day = a; day < DAYS; day++) {
            if (journey.guests(inn, day, false) > 0) {
                return day;
            }
        }
        return NONE;
    }

    public int count(int what) {
        switch (what) {
            case 0:
                return land.inns;
            case 1:
                return land.caravans;
            case 2:
                return land.bales;
            case 3:
                return facts.size;
            case 4:
                return book.size;
            case 5:
                return tape.length;
            default:
                return NONE;
        }
    }

    private static boolean isWithin(int x, int least, int most) {
        return least <= x && x <= most;
    }

    private static boolean isDay(int day) {
        return isWithin(day, 0, DAYS - 1);
    }

    private static boolean isLord(int lord) {
        return isWithin(lord, 0, LORDS - 1);
    }

    /** The bytes that were fed and not yet read. */
    private static final class Tape {
        final byte[] bytes = new byte[TAPE_MAX];
        int length = 0;

        void append(int fourBytes) {
            for (int shift = 24; shift >= 0; shift -= 8) {
                if (length < TAPE_MAX) {
                    bytes[length] = (byte) (fourBytes >>> shift);
                    length++;
                }
            }
        }

        /** The byte at a place, 0 to 255; NONE behind the end. */
        int at(int i) {
            return i >= 0 && i < length && i < TAPE_MAX ? bytes[i] & 255 : NONE;
        }
    }

    /** Cuts the tape into tokens, one at a time. */
    private static final class Scanner {
        final Tape tape;
        int next = 0;
        int start = 0;
        int token = END;
        int value = 0;

        Scanner(Tape source) {
            tape = source;
        }

        void rewind() {
            next = 0;
        }

        void advance() {
            while (next < tape.length && isBlank(tape.at(next))) {
                next++;
            }
            start = next;
            int c = tape.at(next);
            if (c == NONE) {
                token = END;
            } else if (isWithin(c, 'a', 'z')) {
                takeWord();
            } else if (isWithin(c, '0', '9')) {
                takeInt();
            } else {
                takeSign(c);
            }
        }

        private void takeWord() {
            while (next < tape.length && isWithin(tape.at(next), 'a', 'z')) {
                next++;
            }
            token = next - start <= WORD_MAX ? wordToken() : STRANGE;
        }

        private void takeInt() {
            value = 0;
            while (next < tape.length && isWithin(tape.at(next), '0', '9')) {
                value = value * 10 + tape.at(next) - '0';
                next++;
            }
            token = next - start <= INT_MAX ? INT : STRANGE;
        }

        private void takeSign(int c) {
            boolean isPair = tape.at(next + 1) == '=' && (c == '=' || c == '!' || c == '<');
            token = isPair ? pairToken(c) : signToken(c);
            next += isPair ? 2 : 1;
        }

        private static boolean isBlank(int c) {
            return c == 9 || c == 10 || c == 13 || c == 32;
        }

        private static int pairToken(int c) {
            if (c == '=') {
                return EQUAL;
            }
            return c == '!' ? UNEQUAL : AT_MOST;
        }

        private static int signToken(int c) {
            switch (c) {
                case ';':
                    return SEMICOLON;
                case '+':
                    return PLUS;
                case '-':
                    return MINUS;
                case '*':
                    return TIMES;
                case '<':
                    return LESS;
                case '(':
                    return OPEN;
                case ')':
                    return CLOSE;
                default:
                    return STRANGE;
            }
        }

        /** The token of the word from start to next; a word that no rule has is as strange as none. */
        private int wordToken() {
            int word = 0;
            int i = start;
            boolean isAlike = true;
            for (int k = 0; k < WORDS.length(); k++) {
                char letter = WORDS.charAt(k);
                if (letter != ' ') {
                    isAlike = isAlike && i < next && tape.at(i) == letter;
                    i++;
                } else if (isAlike && i == next) {
                    return FIRST + word;
                } else {
                    word++;
                    i = start;
                    isAlike = true;
                }
            }
            return STRANGE;
        }
    }

    /**
     * Reads a text token by token: it knows at each which ones may follow, so the first that may
     * not is the fault. Operators wait until those that bind closer are written.
     */
    private static final class Reader {
        final Scanner scanner;
        final int[] waiting = new int[WAITING_MAX];
        int waits = 0;
        int awaited = AT_RULE;
        int part = IN_VALUE;
        int depth = 0;
        int fault = 0;
        int faultPlace = NONE;
        int wrongPlace = NONE;

        Reader(Tape tape) {
            scanner = new Scanner(tape);
        }

        /** Reads the tape into a book; answers the fault's number, 0 without one. */
        int parse(RuleBook book) {
            begin(book);
            boolean isRead = false;
            for (int taken = 0; taken <= TOKENS_MAX && !isRead && fault == 0; taken++) {
                scanner.advance();
                if (!mayFollow(scanner.token)) {
                    blame(SYNTAX, scanner.start);
                } else if (scanner.token == END) {
                    isRead = true;
                } else if (taken == TOKENS_MAX || isTooMuch(book)) {
                    blame(ROOM, scanner.start);
                } else {
                    take(book);
                }
            }
            if (fault == 0 && wrongPlace != NONE) {
                blame(WRONG, wrongPlace);
            }
            return fault;
        }

        private void begin(RuleBook book) {
            scanner.rewind();
            book.clear();
            waits = 0;
            awaited = AT_RULE;
            part = IN_VALUE;
            depth = 0;
            fault = 0;
            faultPlace = NONE;
            wrongPlace = NONE;
        }

        private void blame(int number, int where) {
            fault = number;
            faultPlace = where;
        }

        private boolean mayFollow(int token) {
            switch (awaited) {
                case AT_RULE:
                    return token == END || isWithin(token, FIRST, BAR);
                case AT_LORD:
                    return token == INT;
                case AT_IF:
                    return token == IF;
                case AT_UNIT:
                    return token == INT || token == OPEN || isWithin(token, KIND, LATE);
                default:
                    return mayFollowUnit(token);
            }
        }

        private boolean mayFollowUnit(int token) {
            if (isWithin(token, PLUS, TIMES)) {
                return true;
            }
            if (depth > 0) {
                return token == CLOSE;
            }
            if (part == IN_LEFT) {
                return isWithin(token, EQUAL, AT_MOST);
            }
            if (part == IN_RIGHT) {
                return token == AND || token == OR || token == SEMICOLON;
            }
            return token == IF || token == SEMICOLON;
        }

        private boolean isTooMuch(RuleBook book) {
            if (awaited == AT_RULE) {
                return book.size >= RULES_MAX;
            }
            return scanner.token == OPEN && depth >= NESTED_MAX;
        }

        private void take(RuleBook book) {
            switch (awaited) {
                case AT_RULE:
                    book.beginRule(scanner.token);
                    part = IN_VALUE;
                    awaited = scanner.token == FIRST ? AT_UNIT : AT_LORD;
                    break;
                case AT_LORD:
                    takeLord(book);
                    break;
                case AT_IF:
                    takeIf(book);
                    break;
                case AT_UNIT:
                    takeUnit(book);
                    break;
                default:
                    takeBehindUnit(book);
                    break;
            }
        }

        private void takeLord(RuleBook book) {
            if (!isLord(scanner.value) && wrongPlace == NONE) {
                wrongPlace = scanner.start;
            }
            book.setLord(scanner.value);
            awaited = book.isInBar() ? AT_IF : AT_UNIT;
        }

        private void takeIf(RuleBook book) {
            book.beginCondition();
            part = IN_LEFT;
            awaited = AT_UNIT;
        }

        private void takeUnit(RuleBook book) {
            if (scanner.token == OPEN) {
                hold(OPEN);
                depth++;
            } else {
                book.write(scanner.token == INT ? scanner.value : -scanner.token);
                awaited = BEHIND_UNIT;
            }
        }

        private void takeBehindUnit(RuleBook book) {
            release(book, rank(scanner.token));
            switch (scanner.token) {
                case CLOSE:
                    // What waits last is the parenthesis that is closed now.
                    waits = Math.max(0, waits - 1);
                    depth--;
                    break;
                case IF:
                    takeIf(book);
                    break;
                case SEMICOLON:
                    book.endRule();
                    awaited = AT_RULE;
                    break;
                default:
                    takeOperator(scanner.token);
                    break;
            }
        }

        private void takeOperator(int token) {
            hold(token);
            awaited = AT_UNIT;
            if (token == AND || token == OR) {
                part = IN_LEFT;
            } else if (isWithin(token, EQUAL, AT_MOST)) {
                part = IN_RIGHT;
            }
        }

        private void hold(int token) {
            if (waits < WAITING_MAX) {
                waiting[waits] = token;
                waits++;
            }
        }

        /** Writes the waiting operators that bind at least as close, back to a parenthesis. */
        private void release(RuleBook book, int least) {
            while (waits > 0 && waits <= WAITING_MAX && rank(waiting[waits - 1]) >= least) {
                waits--;
                book.write(-waiting[waits]);
            }
        }

        private static int rank(int token) {
            switch (token) {
                case OPEN:
                    return 0;
                case TIMES:
                    return 5;
                case PLUS:
                case MINUS:
                    return 4;
                case EQUAL:
                case UNEQUAL:
                case LESS:
                case AT_MOST:
                    return 3;
                case AND:
                    return 2;
                default:
                    // 'or', and all that ends an expression.
                    return 1;
            }
        }
    }

    /**
     * The rules of one text. Their expressions are one row of code, operands ahead of operators:
     * an int as itself, a variable or operator as its token below 0.
     */
    private static final class RuleBook {
        final int[] sort = new int[RULES_MAX];
        final int[] lord = new int[RULES_MAX];
        final int[] valueAt = new int[RULES_MAX];
        final int[] conditionAt = new int[RULES_MAX];
        final int[] endAt = new int[RULES_MAX];
        final int[] code = new int[TOKENS_MAX];
        final int[] stack = new int[WAITING_MAX];
        int size = 0;
        int length = 0;

        void clear() {
            size = 0;
            length = 0;
        }

        void beginRule(int token) {
            if (size < RULES_MAX) {
                sort[size] = token;
                lord[size] = 0;
                valueAt[size] = length;
                conditionAt[size] = NONE;
            }
        }

        void setLord(int number) {
            if (size < RULES_MAX) {
                lord[size] = number;
            }
        }

        boolean isInBar() {
            return size < RULES_MAX && sort[size] == BAR;
        }

        void beginCondition() {
            if (size < RULES_MAX) {
                conditionAt[size] = length;
            }
        }

        void endRule() {
            if (size < RULES_MAX) {
                if (conditionAt[size] == NONE) {
                    conditionAt[size] = length;
                }
                endAt[size] = length;
                size++;
            }
        }

        void write(int item) {
            if (length < TOKENS_MAX) {
                code[length] = item;
                length++;
            }
        }

        /** The first rule of a sort and a lord (0 for the sort FIRST) that holds; NONE without. */
        int firstThatHolds(int wantedSort, int wantedLord, int[] vars) {
            for (int rule = 0; rule < size && rule < RULES_MAX; rule++) {
                if (sort[rule] == wantedSort && lord[rule] == wantedLord
                        && (conditionAt[rule] == endAt[rule]
                        || run(conditionAt[rule], endAt[rule], vars) != 0)) {
                    return rule;
                }
            }
            return NONE;
        }

        /** The value of the first rule that holds; 0 without one. */
        int value(int wantedSort, int wantedLord, int[] vars) {
            int rule = firstThatHolds(wantedSort, wantedLord, vars);
            return isWithin(rule, 0, RULES_MAX - 1)
                    ? run(valueAt[rule], conditionAt[rule], vars) : 0;
        }

        private int run(int from, int to, int[] vars) {
            int top = 0;
            for (int i = Math.max(0, from); i < to && i < TOKENS_MAX; i++) {
                int item = code[i];
                int variable = -item - KIND;
                if (item >= 0 || isWithin(variable, 0, VARS - 1)) {
                    if (top < WAITING_MAX) {
                        stack[top] = item >= 0 ? item : vars[variable];
                        top++;
                    }
                } else if (isWithin(top, 2, WAITING_MAX)) {
                    top--;
                    stack[top - 1] = apply(-item, stack[top - 1], stack[top]);
                }
            }
            return top > 0 ? stack[0] : 0;
        }

        private static int apply(int operator, int left, int right) {
            switch (operator) {
                case PLUS:
                    return left + right;
                case MINUS:
                    return left - right;
                case TIMES:
                    return left * right;
                case EQUAL:
                    return left == right ? 1 : 0;
                case UNEQUAL:
                    return left != right ? 1 : 0;
                case LESS:
                    return left < right ? 1 : 0;
                case AT_MOST:
                    return left <= right ? 1 : 0;
                case AND:
                    return left & right;
                default:
                    return left | right;
            }
        }
    }

    /** What stands for all days: inns with their rooms, caravans, bales. */
    private static final class Land {
        int inns = 0;
        final int[] lord = new int[INNS_MAX];
        final int[] stalls = new int[INNS_MAX];
        final int[] fodder = new int[INNS_MAX];
        final int[] rooms = new int[INNS_MAX];
        final int[][] size = new int[INNS_MAX][ROOMS_MAX];
        int caravans = 0;
        final int[] kind = new int[CARAVANS_MAX];
        final int[] beasts = new int[CARAVANS_MAX];
        final int[] guards = new int[CARAVANS_MAX];
        final int[] from = new int[CARAVANS_MAX];
        final int[] to = new int[CARAVANS_MAX];
        final int[] begins = new int[CARAVANS_MAX];
        final int[] load = new int[CARAVANS_MAX];
        int bales = 0;
        final int[] owner = new int[BALES_MAX];

        boolean hasInn(int i) {
            return isWithin(i, 0, inns - 1);
        }

        boolean hasCaravan(int i) {
            return isWithin(i, 0, caravans - 1);
        }

        boolean hasBale(int i) {
            return isWithin(i, 0, bales - 1);
        }
    }

    /** The facts in the order in which they were told. */
    private static final class Facts {
        int size = 0;
        // NONE for a fact that tells of a shut road.
        final int[] bale = new int[FACTS_MAX];
        final int[] day = new int[FACTS_MAX];
        final boolean[] whole = new boolean[FACTS_MAX];
        // How many facts must be known to know that a road is shut on a day; 0: none tells it.
        final int[][] shutBy = new int[INNS_MAX][DAYS];

        boolean isKnown(int n) {
            return isWithin(n, 0, size);
        }

        int addShut(int i, int when) {
            int number = add(NONE, when, false);
            if (number != NONE && shutBy[i][when] == 0) {
                shutBy[i][when] = number + 1;
            }
            return number;
        }

        int addLook(int seal, int when, boolean isWhole) {
            return add(seal, when, isWhole);
        }

        private int add(int seal, int when, boolean isWhole) {
            int number = size;
            if (number >= FACTS_MAX) {
                return NONE;
            }
            bale[number] = seal;
            day[number] = when;
            whole[number] = isWhole;
            size = number + 1;
            return number;
        }

        boolean isShut(int i, int when, int n) {
            return isWithin(shutBy[i][when], 1, n);
        }

        /** How many of the first n facts shut a road: these alone change the journey. */
        int shutsAmong(int n) {
            int shuts = 0;
            for (int fact = 0; fact < n && fact < FACTS_MAX; fact++) {
                if (bale[fact] == NONE) {
                    shuts++;
                }
            }
            return shuts;
        }

        /** By days, of one day as told: the first look that says broken; NONE without. */
        int firstBroken(int seal, int n) {
            int found = NONE;
            for (int fact = 0; fact < n && fact < FACTS_MAX; fact++) {
                if (bale[fact] == seal && !whole[fact]
                        && (found == NONE || day[fact] < day[found])) {
                    found = fact;
                }
            }
            return found;
        }

        /** The first evening on which the seal of a broken look could have been broken. */
        int firstSuspectDay(int seal, int n, int broken) {
            int lastWhole = NONE;
            for (int fact = 0; fact < n && fact < FACTS_MAX; fact++) {
                boolean isAhead = day[fact] < day[broken]
                        || day[fact] == day[broken] && fact < broken;
                if (bale[fact] == seal && whole[fact] && isAhead) {
                    lastWhole = Math.max(lastWhole, day[fact]);
                }
            }
            return lastWhole == day[broken] ? lastWhole : lastWhole + 1;
        }
    }

    /** Lays the caravans of one inn and one evening in rooms. */
    private static final class Lodging {
        final Land land;
        int inn = 0;
        int guests = 0;
        final int[] guest = new int[CARAVANS_MAX];
        final int[] rank = new int[CARAVANS_MAX];
        final int[] roomOf = new int[CARAVANS_MAX];
        int lodged = 0;
        final int[] lodger = new int[CARAVANS_MAX];
        final int[] trial = new int[CARAVANS_MAX];
        final int[] parties = new int[ROOMS_MAX];
        final int[] guards = new int[ROOMS_MAX];
        final int[] kind = new int[ROOMS_MAX];

        Lodging(Land where) {
            land = where;
        }

        void open(int number) {
            inn = number;
            guests = 0;
        }

        /** Adds a guest in order; caravans come by their numbers, so equals stay as they came. */
        void admit(int caravan, int first) {
            if (guests >= CARAVANS_MAX) {
                return;
            }
            int i = guests;
            while (i > 0 && rank[i - 1] < first) {
                guest[i] = guest[i - 1];
                rank[i] = rank[i - 1];
                i--;
            }
            guest[i] = caravan;
            rank[i] = first;
            guests++;
        }

        /** Each in order is lodged if all who were lodged ahead of it still can be, too. */
        void lay() {
            lodged = 0;
            int beasts = 0;
            for (int i = 0; i < guests && i < CARAVANS_MAX; i++) {
                int caravan = guest[i];
                int together = beasts + land.beasts[caravan];
                roomOf[caravan] = NONE;
                lodger[lodged] = caravan;
                if (together <= land.stalls[inn] && fitsAll(lodged + 1)) {
                    lodged++;
                    beasts = together;
                    keepTrial();
                }
            }
        }

        private void keepTrial() {
            for (int i = 0; i < lodged && i < CARAVANS_MAX; i++) {
                roomOf[lodger[i]] = trial[i];
            }
        }

        private boolean fitsAll(int lodgers) {
            for (int room = 0; room < ROOMS_MAX; room++) {
                parties[room] = 0;
                guards[room] = 0;
            }
            return fits(0, lodgers);
        }

        /** The least rooms are tried first, so the first way that is found is the one wanted. */
        private boolean fits(int i, int lodgers) {
            if (i >= lodgers || i >= CARAVANS_MAX) {
                return true;
            }
            int caravan = lodger[i];
            for (int room = 0; room < land.rooms[inn] && room < ROOMS_MAX; room++) {
                if (isOpenTo(room, caravan)) {
                    parties[room]++;
                    guards[room] += land.guards[caravan];
                    kind[room] = land.kind[caravan];
                    trial[i] = room;
                    if (fits(i + 1, lodgers)) {
                        return true;
                    }
                    parties[room]--;
                    guards[room] -= land.guards[caravan];
                }
            }
            return false;
        }

        private boolean isOpenTo(int room, int caravan) {
            return (parties[room] == 0 || kind[room] == land.kind[caravan])
                    && guards[room] + land.guards[caravan] <= land.size[inn][room];
        }
    }

    /** The road day by day: what each caravan and inn was on each evening of the latest walk. */
    private static final class Journey {
        final Land land;
        final Facts facts;
        final Lodging lodging;
        final int[] vars = new int[VARS];
        final int[][] innOf = new int[CARAVANS_MAX][DAYS];
        final int[][] roomOf = new int[CARAVANS_MAX][DAYS];
        final int[][] hungry = new int[CARAVANS_MAX][DAYS];
        final int[][] late = new int[CARAVANS_MAX][DAYS];
        final int[][] paid = new int[CARAVANS_MAX][DAYS];
        final int[][] first = new int[CARAVANS_MAX][DAYS];
        final int[][] barring = new int[CARAVANS_MAX][DAYS];
        final int[][] left = new int[INNS_MAX][DAYS];
        final int[][] gets = new int[LORDS][DAYS];
        // How many shut roads the latest walk knew; NONE: it must be walked anew.
        int walkedShuts = NONE;

        Journey(Land where, Facts told) {
            land = where;
            facts = told;
            lodging = new Lodging(where);
        }

        void forget() {
            walkedShuts = NONE;
        }

        /** Walks all days as known by n, unless the latest walk knew just the same. */
        void walk(RuleBook book, int n) {
            int shuts = facts.shutsAmong(n);
            if (shuts == walkedShuts) {
                return;
            }
            walkedShuts = shuts;
            for (int day = 0; day < DAYS; day++) {
                morning(book, day, n);
                evening(book, day);
            }
        }

        private void morning(RuleBook book, int day, int n) {
            for (int lord = 0; lord < LORDS; lord++) {
                gets[lord][day] = day == 0 ? 0 : gets[lord][day - 1];
            }
            for (int caravan = 0; caravan < land.caravans; caravan++) {
                wake(caravan, day);
                if (innOf[caravan][day] != NONE) {
                    goOn(book, caravan, day, n);
                }
            }
        }

        private void wake(int caravan, int day) {
            int ahead = day == 0 ? NONE : innOf[caravan][day - 1];
            innOf[caravan][day] = ahead == land.to[caravan] ? NONE : ahead;
            roomOf[caravan][day] = NONE;
            hungry[caravan][day] = day == 0 ? 0 : hungry[caravan][day - 1];
            late[caravan][day] = day == 0 ? 0 : late[caravan][day - 1];
            paid[caravan][day] = day == 0 ? 0 : paid[caravan][day - 1];
            first[caravan][day] = 0;
            barring[caravan][day] = NONE;
        }

        private void goOn(RuleBook book, int caravan, int day, int n) {
            int here = innOf[caravan][day];
            int next = here < land.to[caravan] ? here + 1 : here - 1;
            if (!land.hasInn(here) || !land.hasInn(next)) {
                return;
            }
            setVars(caravan, day, next);
            int bar = book.firstThatHolds(BAR, land.lord[next], vars);
            barring[caravan][day] = bar;
            if (bar == NONE && !facts.isShut(Math.min(here, next), day, n)
                    && hungry[caravan][day] < TOO_HUNGRY) {
                innOf[caravan][day] = next;
                if (land.lord[next] != land.lord[here]) {
                    pay(caravan, day, land.lord[next], book.value(TOLL, land.lord[next], vars));
                }
            }
        }

        private void pay(int caravan, int day, int lord, int toll) {
            if (toll > 0) {
                paid[caravan][day] += toll;
                gets[lord][day] += toll;
            }
        }

        private void setVars(int caravan, int day, int inn) {
            vars[0] = land.kind[caravan];
            vars[1] = land.beasts[caravan];
            vars[2] = land.guards[caravan];
            vars[3] = land.load[caravan];
            vars[4] = hungry[caravan][day];
            vars[5] = day;
            vars[6] = inn;
            vars[7] = late[caravan][day];
        }

        private void evening(RuleBook book, int day) {
            for (int caravan = 0; caravan < land.caravans; caravan++) {
                if (land.begins[caravan] == day) {
                    innOf[caravan][day] = land.from[caravan];
                }
                if (innOf[caravan][day] != NONE) {
                    setVars(caravan, day, innOf[caravan][day]);
                    first[caravan][day] = book.value(FIRST, 0, vars);
                }
            }
            for (int inn = 0; inn < land.inns; inn++) {
                host(inn, day);
            }
        }

        private void host(int inn, int day) {
            lodging.open(inn);
            for (int caravan = 0; caravan < land.caravans; caravan++) {
                if (innOf[caravan][day] == inn) {
                    lodging.admit(caravan, first[caravan][day]);
                }
            }
            lodging.lay();
            int store = day == 0 ? 0 : left[inn][day - 1];
            store = Math.min(STORE_MAX, store + land.fodder[inn]);
            for (int i = 0; i < lodging.guests; i++) {
                int caravan = lodging.guest[i];
                roomOf[caravan][day] = lodging.roomOf[caravan];
                if (roomOf[caravan][day] == NONE) {
                    late[caravan][day]++;
                }
                if (land.beasts[caravan] <= store) {
                    store -= land.beasts[caravan];
                    hungry[caravan][day] = 0;
                } else {
                    hungry[caravan][day]++;
                }
            }
            left[inn][day] = store;
        }

        boolean isOutside(int caravan, int day) {
            return innOf[caravan][day] != NONE && roomOf[caravan][day] == NONE;
        }

        /** How many caravans are at an inn in rooms, or outside. */
        int guests(int inn, int day, boolean areInRooms) {
            int number = 0;
            for (int caravan = 0; caravan < land.caravans; caravan++) {
                if (innOf[caravan][day] == inn
                        && (roomOf[caravan][day] != NONE) == areInRooms) {
                    number++;
                }
            }
            return number;
        }

        int beastsInStalls(int inn, int day) {
            int beasts = 0;
            for (int caravan = 0; caravan < land.caravans; caravan++) {
                if (innOf[caravan][day] == inn && roomOf[caravan][day] != NONE) {
                    beasts += land.beasts[caravan];
                }
            }
            return beasts;
        }

        int guardsInRoom(int inn, int room, int day) {
            int guards = 0;
            for (int caravan = 0; caravan < land.caravans; caravan++) {
                if (innOf[caravan][day] == inn && roomOf[caravan][day] == room) {
                    guards += land.guards[caravan];
                }
            }
            return guards;
        }

        /** As bits: the others in a caravan's room, or outside with it at its inn. */
        int companions(int own, int day) {
            int bits = 0;
            int inn = innOf[own][day];
            for (int other = 0; other < land.caravans; other++) {
                if (other != own && inn != NONE && innOf[other][day] == inn
                        && roomOf[other][day] == roomOf[own][day]) {
                    bits |= 1 << other;
                }
            }
            return bits;
        }
    }
}
