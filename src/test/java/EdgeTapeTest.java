/**
 * Promises 2 to 5, a sentence of the document a test: the tape's edges. A tape of blanks is a text
 * without a fault, so a strange byte among them tells its own place.
 */
public final class EdgeTapeTest {
    private static final int BLANKS = 0x20202020;
    private static final int STRANGE = 0x40404040;
    private static final Checks CHECKS = new Checks();

    public static void main(String[] args) {
        twentyBytesTheHighestOfAFirst();
        theyComeBehindTheTape();
        feedTellsHowManyItHas();
        nothingComesBeyondTwoThousand();
        theLastBytesGo();
        nothingGoesIfItHasNotSoMany();
        nothingGoesBelowZero();
        theTapeIsEmptyBehindRead();
        anEmptyTapeIsReadAsNoRules();
        thePlaceIsOfTheLatestRead();
        thereIsNoPlaceWithoutAFault();
        textsOfTwoThousandBytes();
        CHECKS.end();
    }

    /** "Twenty bytes, the highest of a first": each of the twenty stands at its place. */
    private static void twentyBytesTheHighestOfAFirst() {
        int[] strange = {0, 0x40, 0x80, 0xff};
        for (int at = 0; at < 20; at++) {
            CaravanRoad road = new CaravanRoad();
            int[] words = {BLANKS, BLANKS, BLANKS, BLANKS, BLANKS};
            int shift = 24 - at % 4 * 8;
            words[at / 4] = words[at / 4] & ~(0xff << shift) | strange[at % strange.length] << shift;
            road.feed(words[0], words[1], words[2], words[3], words[4]);
            due("read() with a strange byte at " + at, road.read(), 1);
            due("place() of the byte at " + at, road.place(), at);
        }
    }

    /** "come behind the tape". */
    private static void theyComeBehindTheTape() {
        CaravanRoad road = new CaravanRoad();
        feedBlanks(road, 1);
        feedStrange(road);
        feedBlanks(road, 1);
        due("read()", road.read(), 1);
        due("place() of the second twenty", road.place(), 20);
        // A word that goes over from one feed to the next is one word.
        Checks.feed(road, "                 fir");
        Checks.feed(road, "st 5;");
        due("read() of a word in two parts", road.read(), 0);
        due("count(4)", road.count(4), 1);
    }

    /** "how many it has". */
    private static void feedTellsHowManyItHas() {
        CaravanRoad road = new CaravanRoad();
        for (int i = 1; i <= 100; i++) {
            due("feed " + i, road.feed(0, -1, Integer.MIN_VALUE, Integer.MAX_VALUE, 1), 20 * i);
        }
        due("count(5)", road.count(5), 2000);
    }

    /** "NONE, and nothing comes, if it would have more than 2,000." */
    private static void nothingComesBeyondTwoThousand() {
        for (int length = 1980; length <= 2000; length++) {
            CaravanRoad road = new CaravanRoad();
            feedBlanks(road, 100);
            road.back(2000 - length);
            due("feed at " + length, feedStrange(road), length == 1980 ? 2000 : -1);
            due("count(5) at " + length, road.count(5), length == 1980 ? 2000 : length);
            due("read() at " + length, road.read(), length == 1980 ? 1 : 0);
            due("place() at " + length, road.place(), length == 1980 ? 1980 : -1);
        }
    }

    /** "The last n bytes of the tape go: how many it has." */
    private static void theLastBytesGo() {
        CaravanRoad road = new CaravanRoad();
        due("back(0) of a new tape", road.back(0), 0);
        feedBlanks(road, 1);
        feedStrange(road);
        due("back(0)", road.back(0), 40);
        due("back(19)", road.back(19), 21);
        due("back(1)", road.back(1), 20);
        due("read() of what is left", road.read(), 0);
        feedStrange(road);
        due("back(20), all", road.back(20), 0);
        due("count(5)", road.count(5), 0);
        due("feed behind it", feedBlanks(road, 1), 20);
        due("read()", road.read(), 0);
        feedBlanks(road, 100);
        due("back(2000), all of a full tape", road.back(2000), 0);
    }

    /** "NONE, and nothing goes, if it has not so many": a strange byte at the end is still there. */
    private static void nothingGoesIfItHasNotSoMany() {
        CaravanRoad road = new CaravanRoad();
        due("back(1) of an empty tape", road.back(1), -1);
        due("back(most) of an empty tape", road.back(Integer.MAX_VALUE), -1);
        feedStrange(road);
        due("back(21) of twenty", road.back(21), -1);
        due("back(2000) of twenty", road.back(2000), -1);
        due("back(most) of twenty", road.back(Integer.MAX_VALUE), -1);
        due("count(5)", road.count(5), 20);
        due("read()", road.read(), 1);
        feedBlanks(road, 100);
        due("back(2001) of a full tape", road.back(2001), -1);
        due("count(5) of a full tape", road.count(5), 2000);
    }

    /** "or n is below 0". */
    private static void nothingGoesBelowZero() {
        CaravanRoad road = new CaravanRoad();
        due("back(-1) of an empty tape", road.back(-1), -1);
        feedStrange(road);
        road.back(20);
        feedBlanks(road, 1);
        road.back(10);
        for (int n : new int[] {-1, -10, -20, -2000, Integer.MIN_VALUE, Integer.MIN_VALUE + 1}) {
            due("back(" + n + ")", road.back(n), -1);
            due("count(5) behind back(" + n + ")", road.count(5), 10);
        }
        due("read()", road.read(), 0);
    }

    /** "The tape, which is empty then, is read: 0, or the number of its FAULT." */
    private static void theTapeIsEmptyBehindRead() {
        String[] texts = {"first 1;", "first", "first (((((((", "toll 5 1;", "   "};
        int[] faults = {0, 1, 2, 5, 0};
        CaravanRoad road = new CaravanRoad();
        for (int i = 0; i < texts.length; i++) {
            due("read() of " + texts[i], Checks.read(road, texts[i]), faults[i]);
            due("count(5) behind " + texts[i], road.count(5), 0);
            due("back(1) behind " + texts[i], road.back(1), -1);
            due("feed behind " + texts[i], feedBlanks(road, 1), 20);
            road.back(20);
        }
    }

    /** "The tape .. is read: 0": an empty one, too, is a text, of no RULES. */
    private static void anEmptyTapeIsReadAsNoRules() {
        CaravanRoad road = new CaravanRoad();
        due("read() of a new tape", road.read(), 0);
        due("place()", road.place(), -1);
        Checks.read(road, "first 1;");
        due("count(4)", road.count(4), 1);
        due("read() again", road.read(), 0);
        due("count(4) behind the second read()", road.count(4), 0);
    }

    /** "The byte of the latest read()'s FAULT": other calls leave it. */
    private static void thePlaceIsOfTheLatestRead() {
        CaravanRoad road = new CaravanRoad();
        Checks.read(road, "first 1; ;");
        due("place()", road.place(), 9);
        due("place() again", road.place(), 9);
        Checks.feed(road, "first 1;");
        road.back(0);
        road.back(-1);
        road.inn(0, 0, 0);
        due("place() while a text is fed", road.place(), 9);
        Checks.read(road, "bar");
        // The text that was on the tape is part of it: 8 bytes ahead.
        due("place() of the next fault", road.place(), 11);
        Checks.read(road, "@");
        due("place() 0", road.place(), 0);
    }

    /** "NONE without." */
    private static void thereIsNoPlaceWithoutAFault() {
        CaravanRoad road = new CaravanRoad();
        due("place() ahead of a read()", road.place(), -1);
        Checks.read(road, "first");
        due("place() of a fault", road.place(), 5);
        Checks.read(road, "first 1;");
        due("place() behind a text without", road.place(), -1);
        Checks.read(road, "toll 5 1;");
        due("place() of a fault", road.place(), 5);
        road.read();
        due("place() behind no text", road.place(), -1);
    }

    /** "RULES are a text of at most 2,000 bytes." "the text's end: its length". */
    private static void textsOfTwoThousandBytes() {
        String blanks = " ".repeat(1992);
        CHECKS.good(blanks + "first 1;", 1);
        CHECKS.good("first 1;" + blanks, 1);
        CHECKS.bad(blanks + "first 1@", 1, 1999);
        CHECKS.bad(blanks + "first 10", 1, 2000);
        CHECKS.bad("first 1 " + blanks, 1, 2000);
    }

    private static int feedBlanks(CaravanRoad road, int times) {
        int answer = 0;
        for (int i = 0; i < times; i++) {
            answer = road.feed(BLANKS, BLANKS, BLANKS, BLANKS, BLANKS);
        }
        return answer;
    }

    private static int feedStrange(CaravanRoad road) {
        return road.feed(STRANGE, STRANGE, STRANGE, STRANGE, STRANGE);
    }

    private static void due(String call, long got, long want) {
        CHECKS.due(call, got, want);
    }
}
