/** Counts the answers that are not due, and feeds texts to a road. */
final class Checks {
    private int made = 0;
    private int wrong = 0;

    void due(String call, long got, long want) {
        made++;
        if (got != want) {
            wrong++;
            System.out.println(call + " answered " + got + ", due is " + want);
        }
    }

    /** Ends the test: with exit code 1 if an answer was wrong. */
    void end() {
        System.out.println(made + " answers, " + wrong + " not as due");
        if (wrong != 0 || made == 0) {
            System.exit(1);
        }
    }

    /** Puts a text of at most 2,000 characters on an empty tape. */
    static void feed(CaravanRoad road, String text) {
        int padding = (20 - text.length() % 20) % 20;
        String padded = text + " ".repeat(padding);
        for (int i = 0; i < padded.length(); i += 20) {
            road.feed(word(padded, i), word(padded, i + 4), word(padded, i + 8),
                    word(padded, i + 12), word(padded, i + 16));
        }
        road.back(padding);
    }

    static int read(CaravanRoad road, String text) {
        feed(road, text);
        return road.read();
    }

    private static int word(String text, int i) {
        return text.charAt(i) << 24 | text.charAt(i + 1) << 16 | text.charAt(i + 2) << 8
                | text.charAt(i + 3);
    }
}
