/** Promises 2 to 5 and the text of the RULES: the tape, tokens, grammar, FAULTS and values. */
public final class TextTest {
    private static final Checks CHECKS = new Checks();

    public static void main(String[] args) {
        tape();
        goodTexts();
        syntax();
        strangeBytes();
        roomForTokens();
        roomForRules();
        roomForParentheses();
        wrongLords();
        aFaultChangesNothing();
        values();
        variables();
        conditions();
        CHECKS.end();
    }

    private static void tape() {
        CaravanRoad road = new CaravanRoad();
        due("place() of a new road", road.place(), -1);
        due("back(0)", road.back(0), 0);
        due("back(1) of an empty tape", road.back(1), -1);
        due("feed", road.feed(-1, 0, 1, 2, 3), 20);
        due("back(-1)", road.back(-1), -1);
        due("back(least int)", road.back(Integer.MIN_VALUE), -1);
        due("back(21)", road.back(21), -1);
        due("back(19)", road.back(19), 1);
        due("count(5)", road.count(5), 1);
        for (int i = 1; i < 100; i++) {
            due("feed " + i, road.feed(0, 0, 0, 0, 0), 1 + 20 * i);
        }
        due("feed at 1981", road.feed(0, 0, 0, 0, 0), -1);
        due("count(5) at 1981", road.count(5), 1981);
        due("back(1)", road.back(1), 1980);
        due("feed at 1980", road.feed(0, 0, 0, 0, 0), 2000);
        due("feed at 2000", road.feed(0, 0, 0, 0, 0), -1);
        due("read()", road.read(), 1);
        due("place()", road.place(), 0);
        due("count(5) behind read()", road.count(5), 0);
        due("back(1) behind read()", road.back(1), -1);
        due("read() of an empty tape", road.read(), 0);
        due("place() without", road.place(), -1);

        // 'firs' 't 1;' : the highest byte of a comes first.
        due("feed", road.feed(0x66697273, 0x7420313b, 0x20202020, 0x0a0d0920, 0x3b000000), 20);
        due("back(3)", road.back(3), 17);
        due("read()", road.read(), 1);
        due("place()", road.place(), 16);
    }

    private static void goodTexts() {
        good("", 0);
        good(" \t\r\n ", 0);
        good("first 1;", 1);
        good("first1;", 1);
        good("first 9999;first 0001 ;", 2);
        good("first\nkind\t+\rbeasts;", 1);
        good("toll0 1;toll 4 late;", 2);
        good("bar 0004 if 1==1;", 1);
        good("first1if1==1and2!=3or4<5and6<=7;", 1);
        good("first ((kind)) * (1 + 2 - 3) if (1) < (2);", 1);
        good("first kind+beasts+guards+bales+hungry+day+inn+late;", 1);
        good("first " + "(1)+".repeat(20) + "1;", 1);
    }

    private static void syntax() {
        bad("first", 1, 5);
        bad("first  ", 1, 7);
        bad("first ;", 1, 6);
        bad("first 1", 1, 7);
        bad("1", 1, 0);
        bad(";", 1, 0);
        bad("first 1;;", 1, 8);
        bad("if 1 == 1;", 1, 0);
        bad("kind;", 1, 0);
        bad("firsts 1;", 1, 0);
        bad("firs 1;", 1, 0);
        bad("firstkind;", 1, 0);
        bad("first 12345;", 1, 6);
        bad("first 1 2;", 1, 8);
        bad("first kindness;", 1, 6);
        bad("first kinds;", 1, 6);
        bad("first kin;", 1, 6);
        bad("first if 1 == 1;", 1, 6);
        bad("first -1;", 1, 6);
        bad("first 1 +;", 1, 9);
        bad("first 1 ** 2;", 1, 9);
        bad("first (1;", 1, 8);
        bad("first 1);", 1, 7);
        bad("first ();", 1, 7);
        bad("first (1 if 1 == 1);", 1, 9);
        bad("first 1 == 1;", 1, 8);
        bad("first 1 if 1;", 1, 12);
        bad("first 1 if 1 and 2;", 1, 13);
        bad("first 1 if 1 < 2 < 3;", 1, 17);
        bad("first 1 if (1 == 1);", 1, 14);
        bad("first 1 if 1 == 1 if 1 == 1;", 1, 18);
        bad("first 1 if 1 == 1 or;", 1, 20);
        bad("first 1 if;", 1, 10);
        bad("first 1 or 1 == 1;", 1, 8);
        bad("toll;", 1, 4);
        bad("toll 1;", 1, 6);
        bad("toll kind 5;", 1, 5);
        bad("toll (1) 5;", 1, 5);
        bad("toll 1 if 1 == 1;", 1, 7);
        bad("bar 1;", 1, 5);
        bad("bar 1 1 if 1 == 1;", 1, 6);
        bad("bar if 1 == 1;", 1, 4);
        bad("bar 1 if 1 == 1", 1, 15);
        // A fault in the second rule: the first rule is right.
        bad("first 1; toll 1 2; bar", 1, 22);
    }

    private static void strangeBytes() {
        bad("first = 1;", 1, 6);
        bad("first 1 if 1 = 1;", 1, 13);
        bad("first 1 if 1 === 1;", 1, 15);
        bad("first 1 if 1 !1;", 1, 13);
        bad("first 1 if 1 ! = 1;", 1, 13);
        bad("first 1 if 1 < = 1;", 1, 15);
        bad("first 1 if 1 <== 1;", 1, 15);
        bad("first 1 if 1 > 2;", 1, 13);
        bad("first 1 if 1 =", 1, 13);
        bad("First 1;", 1, 0);
        bad("firsT 1;", 1, 0);
        bad("first 1/1;", 1, 7);
        bad("first 1\u0000;", 1, 7);
        bad("first 1\u000b;", 1, 7);
        bad("first 1\f;", 1, 7);
        bad("first 1\u00a0;", 1, 7);
        bad("first 1\u00ff;", 1, 7);
        bad("first 1;\u0080", 1, 8);
        bad("first `;", 1, 6);
        bad("first {;", 1, 6);
        bad("first :;", 1, 6);
    }

    private static void roomForTokens() {
        // 19 rules of 3 tokens, and one of 3 + 340 = 343 tokens: 400 in all.
        String ahead = "first 1;".repeat(19) + "first 1" + "+1".repeat(170);
        good(ahead + ";", 20);
        // The same with one token more; the 401st is the one behind.
        String longer = "first 1;".repeat(18) + "toll 1 1;" + "first 1" + "+1".repeat(170);
        bad(longer + ";", 2, longer.length());
        bad(longer + " \n ;;", 2, longer.length() + 3);
        bad(longer, 1, longer.length());
        bad(longer + " =", 1, longer.length() + 1);
        bad(longer + ")", 1, longer.length());
        bad("first 1" + "+1".repeat(300) + ";", 2, 5 + 1 + 399);
        // 400 tokens that end within a rule: a SYNTAX fault at the text's end.
        bad(ahead + " ", 1, ahead.length() + 1);
    }

    private static void roomForRules() {
        String twenty = "first 1;".repeat(20);
        good(twenty, 20);
        good(twenty + "  ", 20);
        bad(twenty + "first 1;", 2, 160);
        bad(twenty + "  bar", 2, 162);
        bad(twenty + " toll =", 2, 161);
        bad(twenty + "kind", 1, 160);
        bad(twenty + ";", 1, 160);
    }

    private static void roomForParentheses() {
        good("first ((((((1))))));", 1);
        good("first ((((((1)+(1))))))*((((((1))))));", 1);
        good("first 1 if ((((((1)))))) == ((((((1))))));", 1);
        bad("first (((((((1)))))));", 2, 12);
        bad("first (((((((;", 2, 12);
        bad("first ((((((1)+((1))))));", 2, 16);
        bad("first ((((((1)(", 1, 14);
        bad("first 1 (((((((", 1, 8);
        bad("first 1 if 1 == (((((((1)))))));", 2, 22);
    }

    private static void wrongLords() {
        good("toll 4 1; bar 4 if 1 == 1;", 2);
        bad("toll 5 1;", 5, 5);
        bad("toll 0005 1;", 5, 5);
        bad("toll 9999 1;", 5, 5);
        bad("bar  5 if 1 == 1;", 5, 5);
        bad("first 1; bar 5 if 1==1; toll 7 1;", 5, 13);
        // Another fault comes ahead of it, wherever it stands.
        bad("toll 5 1; first ;", 1, 16);
        bad("toll 5 1;" + "first 1;".repeat(20), 2, 9 + 19 * 8);
    }

    private static void aFaultChangesNothing() {
        CaravanRoad road = new CaravanRoad();
        due("read", Checks.read(road, "first 1; first 2;"), 0);
        due("count(4)", road.count(4), 2);
        for (String text : new String[] {"first 3; first", "first 3; toll 5 1;"}) {
            due(text, Checks.read(road, text) == 0 ? 1 : 0, 0);
            due("count(4) behind " + text, road.count(4), 2);
            due("count(5) behind " + text, road.count(5), 0);
            due("the rules behind " + text, firstOf(road), 1);
        }
        due("read", Checks.read(road, "first 4;"), 0);
        due("count(4)", road.count(4), 1);
        due("place()", road.place(), -1);
        due("the new rules", firstOf(road), 4);
        due("read() of nothing", road.read(), 0);
        due("count(4)", road.count(4), 0);
        due("no rules", firstOf(road), 0);
    }

    private static void values() {
        value("1 + 2 * 3 - 4", 3);
        value("(1 + 2) * (3 - 4)", -3);
        value("2 - 3 - 4", -5);
        value("2 - (3 - 4)", 3);
        value("2 * 3 * 4 + 5 * 6", 54);
        value("1 - 2 * 3 + 4", -1);
        value("1*(2+(3*(4+(5*(6+7)))))", 1 * (2 + (3 * (4 + (5 * (6 + 7))))));
        value("9999 * 9999 * 9999", 9999 * 9999 * 9999);
        value("0 - 9999 * 9999 * 22 - 9999 * 9999", 0 - 9999 * 9999 * 22 - 9999 * 9999);
        value("0007", 7);
        value("(((1)))+((2)*((3)))", 7);
        value("10-1-2*2-(1-1-1)", 6);
    }

    private static void variables() {
        CaravanRoad road = new CaravanRoad();
        road.inn(0, 0, 0);
        road.inn(0, 0, 40);
        road.inn(0, 0, 0);
        road.caravan(0, 1, 1, 0, 2, 59);
        road.caravan(3, 11, 7, 0, 2, 4);
        road.bale(1);
        road.bale(0);
        road.bale(1);
        String[] vars = {"kind", "beasts", "guards", "bales", "hungry", "day", "inn", "late"};
        int[][] due = {{3, 11, 7, 2, 0, 4, 0, 0}, {3, 11, 7, 2, 1, 5, 1, 1},
            {3, 11, 7, 2, 0, 6, 2, 2}};
        for (int v = 0; v < vars.length; v++) {
            Checks.read(road, "first " + vars[v] + ";");
            for (int d = 0; d < 3; d++) {
                due(vars[v] + " on day " + (4 + d), road.state(1, 4 + d, 0, 6), due[d][v]);
            }
            due(vars[v] + " ahead", road.state(1, 3, 0, 6), 0);
            due(vars[v] + " when gone", road.state(1, 7, 0, 6), 0);
        }
    }

    private static void conditions() {
        holds("1 == 1", true);
        holds("1 == 2", false);
        holds("1 != 2", true);
        holds("1 != 1", false);
        holds("1 < 2", true);
        holds("2 < 2", false);
        holds("2 <= 2", true);
        holds("3 <= 2", false);
        holds("0 - 9999 * 9999 * 21 < 0 - 9999 * 9999 * 22", true);
        holds("0 - 9999 * 9999 * 21 < 9999 * 9999", true);
        holds("1 + 1 == 2 and 2 * 2 == 4", true);
        holds("1 == 1 and 1 == 2", false);
        holds("1 == 2 or 1 == 1", true);
        holds("1 == 2 or 1 == 3", false);
        // 'and' binds closer than 'or'.
        holds("1 == 1 or 1 == 1 and 1 == 2", true);
        holds("1 == 2 and 1 == 1 or 1 == 1", true);
        holds("1 == 1 and 1 == 2 or 1 == 2", false);
        holds("1 == 2 or 1 == 2 or 1 == 1 and 1 == 1", true);
    }

    private static void due(String call, long got, long want) {
        CHECKS.due(call, got, want);
    }

    private static void good(String text, int rules) {
        CHECKS.good(text, rules);
    }

    private static void bad(String text, int fault, int place) {
        CHECKS.bad(text, fault, place);
    }

    /** The FIRST of a caravan that is there from day 0 on. */
    private static int firstOf(CaravanRoad road) {
        if (road.count(1) == 0) {
            road.inn(0, 1, 1);
            road.inn(0, 1, 1);
            road.caravan(0, 1, 1, 0, 1, 0);
        }
        return road.state(0, 0, 0, 6);
    }

    private static void value(String expression, int want) {
        CaravanRoad road = new CaravanRoad();
        Checks.read(road, "first " + expression + ";");
        due(expression, firstOf(road), want);
        Checks.read(road, "first 1 if " + expression + " == " + expression + ";");
        due(expression + " in a condition", firstOf(road), 1);
    }

    private static void holds(String condition, boolean want) {
        CaravanRoad road = new CaravanRoad();
        Checks.read(road, "first 5 if " + condition + "; first 6;");
        due(condition, firstOf(road), want ? 5 : 6);
    }
}
