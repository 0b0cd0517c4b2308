/** Counts the answers that are not due, and feeds texts to a road. */
final class Checks {
    private int made = 0;
    private int wrong = 0;

    void due(String call, long got, long want) {
        made++;
        if (got != want) {
            wrong++;
            System.out.println(call + " answered " + got + ", due is " + want);
        }
    }

    /** Ends the test: with exit code 1 if an answer was wrong. */
    void end() {
        System.out.println(made + " answers, " + wrong + " not as due");
        if (wrong != 0 || made == 0) {
            System.exit(1);
        }
    }

    /** Puts a text of at most 2,000 characters on an empty tape. */
    static void feed(CaravanRoad road, String text) {
        int padding = (20 - text.length() % 20) % 20;
        String padded = text + " ".repeat(padding);
        for (int i = 0; i < padded.length(); i += 20) {
            road.feed(word(padded, i), word(padded, i + 4), word(padded, i + 8),
                    word(padded, i + 12), word(padded, i + 16));
        }
        road.back(padding);
    }

    static int read(CaravanRoad road, String text) {
        feed(road, text);
        return road.read();
    }

    /** A text without a fault, with so many rules. */
    void good(String text, int rules) {
        reads(text, 0, -1, rules);
    }

    /** A text with a fault: its number and its place. */
    void bad(String text, int fault, int place) {
        reads(text, fault, place, 0);
    }

    private void reads(String text, int fault, int place, int rules) {
        CaravanRoad road = new CaravanRoad();
        String name = text.length() <= 80 ? text
                : text.substring(0, 30) + " .. " + text.substring(text.length() - 30);
        due("read() of " + name, read(road, text), fault);
        due("place() of " + name, road.place(), place);
        due("count(4) of " + name, road.count(4), rules);
    }

    /**
     * What a road answers to some seventy questions: two pictures that are alike tell that nothing
     * happened between them.
     */
    static String picture(CaravanRoad road) {
        int n = road.count(3);
        StringBuilder answers = new StringBuilder().append(road.place());
        for (int what = 0; what <= 5; what++) {
            add(answers, road.count(what));
        }
        for (int i = 0; i < 2; i++) {
            for (int day : new int[] {0, 1, 3}) {
                for (int what = 0; what <= 6; what++) {
                    add(answers, road.state(i, day, n, what));
                }
            }
            for (int what = 0; what <= 3; what++) {
                add(answers, road.house(i, 1, n, what));
            }
            add(answers, road.full(i, 0, 1, n));
            add(answers, road.comes(i, n));
            add(answers, road.barred(i, 1, n));
            add(answers, road.could(i, n));
            add(answers, road.sealed(i, 3, n));
            add(answers, road.tolls(i, 59, n));
            add(answers, road.crowded(i, 0, n));
        }
        return answers.toString();
    }

    private static void add(StringBuilder answers, int answer) {
        answers.append(' ').append(answer);
    }

    void same(String call, String picture, String ahead) {
        made++;
        if (!picture.equals(ahead)) {
            wrong++;
            System.out.println(call + " made of\n  " + ahead + "\n  " + picture);
        }
    }

    private static int word(String text, int i) {
        return text.charAt(i) << 24 | text.charAt(i + 1) << 16 | text.charAt(i + 2) << 8
                | text.charAt(i + 3);
    }
}
