/** Terms II, a sentence of the document a test: the edges of TOKENS, the grammar, FAULTS and ints. */
public final class EdgeTextTest {
    // The greatest int, written with ints of four digits.
    private static final String MOST = "(9999*9999*21+4790*9999+8416)";
    private static final Checks CHECKS = new Checks();

    public static void main(String[] args) {
        blanksBetweenOrNot();
        allElseIsNoToken();
        wordsAreTheLongestThatCanBe();
        wordsOfEightLettersAtMost();
        intsOfOneToFourDigits();
        signsAreTheLongestThatCanBe();
        aTextOfNoRules();
        whatRulesBeginWith();
        whatFollowsTheLord();
        conditionsAreThereOrNot();
        theTextsEndIsItsLength();
        theFirstFaultByItsPlace();
        ofOnePlaceTheLeast();
        a401stToken();
        a21stRule();
        a7thParenthesis();
        lordsAboveFour();
        wrongOnlyIfThereIsNoOther();
        aFaultChangesNothing();
        aTextIsInPlaceOfTheOneAhead();
        nothingIsLeftOfTextsAhead();
        longTextsOneBehindAnother();
        rulesAreNumberedFromZero();
        theTwentiethRule();
        allAndOr();
        theDeepestExpressions();
        intsThatWrap();
        relationsOfWrappedInts();
        CHECKS.end();
    }

    /** "with blanks (9, 10, 13, 32) between or not". */
    private static void blanksBetweenOrNot() {
        for (char blank : new char[] {9, 10, 13, 32}) {
            CHECKS.good(blank + "first" + blank + blank + "1" + blank + ";" + blank, 1);
            CHECKS.bad("fir" + blank + "st 1;", 1, 0);
            CHECKS.bad("first 1" + blank + "2;", 1, 8);
            CHECKS.bad("first 1 if 1 <" + blank + "= 2;", 1, 15);
        }
        CHECKS.good("first(1)*kind+2if(1)<=2and late!=3or inn==4;toll0kind;bar4if 1<2;", 3);
    }

    /** "all else, is no TOKEN": every byte of the 256 that begins none, as a text and behind a unit. */
    private static void allElseIsNoToken() {
        for (char c = 0; c < 256; c++) {
            boolean isBlank = c == 9 || c == 10 || c == 13 || c == 32;
            if (isBlank) {
                CHECKS.good("" + c, 0);
            } else {
                CHECKS.bad("" + c, 1, 0);
            }
            boolean isDigit = '0' <= c && c <= '9';
            if (isBlank || isDigit) {
                CHECKS.good("first 1" + c + ";", 1);
            } else if (c == ';') {
                CHECKS.bad("first 1" + c + ";", 1, 8);
            } else if (c == '+' || c == '-' || c == '*') {
                CHECKS.bad("first 1" + c + ";", 1, 8);
                CHECKS.good("first 1" + c + "1;", 1);
            } else {
                CHECKS.bad("first 1" + c + ";", 1, 7);
            }
        }
    }

    /** "TOKENS, the longest that can be": a word is not cut where a shorter one ends. */
    private static void wordsAreTheLongestThatCanBe() {
        CHECKS.bad("firstkind;", 1, 0);
        CHECKS.bad("tollkind;", 1, 0);
        CHECKS.bad("first kindif 1 == 1;", 1, 6);
        CHECKS.bad("first 1 ifkind == 1;", 1, 8);
        CHECKS.bad("first 1 if 1 == 1 orkind == 1;", 1, 18);
        CHECKS.bad("first 1 if 1 == 1 andinn == 1;", 1, 18);
        CHECKS.bad("first dayinn;", 1, 6);
        CHECKS.bad("first da;", 1, 6);
        CHECKS.bad("first dayy;", 1, 6);
        CHECKS.bad("firs 1;", 1, 0);
        CHECKS.bad("irst 1;", 1, 0);
        // A digit ends a word, and a letter ends an int.
        CHECKS.good("first1if2==2or3==3and4==4;", 1);
        CHECKS.bad("first 1kind;", 1, 7);
        CHECKS.bad("first kind1;", 1, 10);
    }

    /** "WORDS (letters a .. z, 8 at most)"; "A longer one, all else, is no TOKEN." */
    private static void wordsOfEightLettersAtMost() {
        CHECKS.bad("abcdefgh", 1, 0);
        CHECKS.bad("abcdefghi", 1, 0);
        CHECKS.bad("first beastsss;", 1, 6);
        CHECKS.bad("first beastskind;", 1, 6);
        CHECKS.bad("first 1; " + "z".repeat(1990), 1, 9);
        // A long word ending in a right one is no token either.
        CHECKS.bad("zzzzzzzzfirst 1;", 1, 0);
        CHECKS.bad("first 1 if 1 == 1 zzzzzzzzor 2 == 2;", 1, 18);
    }

    /** "INTS (1 to 4 digits)". */
    private static void intsOfOneToFourDigits() {
        value("0", 0);
        value("9", 9);
        value("10", 10);
        value("999", 999);
        value("1000", 1000);
        value("9999", 9999);
        value("0000", 0);
        value("0010", 10);
        CHECKS.bad("first 10000;", 1, 6);
        CHECKS.bad("first 00001;", 1, 6);
        CHECKS.bad("first 99999999;", 1, 6);
        CHECKS.bad("first " + "1".repeat(1990) + ";", 1, 6);
        CHECKS.bad("toll 00001 1;", 1, 5);
        CHECKS.bad("bar 00001 if 1 == 1;", 1, 4);
    }

    /** "SIGNS ; + - * == != < <= ( )", the longest that can be. */
    private static void signsAreTheLongestThatCanBe() {
        for (String sign : new String[] {"==", "!=", "<", "<="}) {
            CHECKS.good("first 1 if 1" + sign + "1;", 1);
            CHECKS.good("first 1 if (1)" + sign + "(1);", 1);
        }
        CHECKS.bad("first 1 if 1===1;", 1, 14);
        CHECKS.bad("first 1 if 1!==1;", 1, 14);
        CHECKS.bad("first 1 if 1<==1;", 1, 14);
        CHECKS.bad("first 1 if 1<<1;", 1, 13);
        CHECKS.bad("first 1 if 1=1;", 1, 12);
        CHECKS.bad("first 1 if 1!1;", 1, 12);
        CHECKS.bad("first 1 if 1=<1;", 1, 12);
        CHECKS.bad("first 1 if 1>1;", 1, 12);
        CHECKS.bad("first 1 if 1>=1;", 1, 12);
        // A sign of two bytes that the text's end cuts.
        CHECKS.bad("first 1 if 1=", 1, 12);
        CHECKS.bad("first 1 if 1!", 1, 12);
        CHECKS.bad("first 1 if 1<", 1, 13);
        CHECKS.bad("first 1 if 1==", 1, 14);
    }

    /** "text: {RULE}": none is enough. */
    private static void aTextOfNoRules() {
        CHECKS.good("", 0);
        CHECKS.good(" ", 0);
        CHECKS.good("\t\n\r ".repeat(500), 0);
    }

    /** A RULE begins with 'first', 'toll' or 'bar', and no other TOKEN. */
    private static void whatRulesBeginWith() {
        String[] others = {"if", "or", "and", "kind", "beasts", "guards", "bales", "hungry", "day", "inn",
            "late", "1", ";", "+", "-", "*", "==", "!=", "<", "<=", "(", ")"};
        for (String token : others) {
            CHECKS.bad(token + " 1;", 1, 0);
            CHECKS.bad("first 1; " + token + " 1;", 1, 9);
        }
    }

    /** "'toll' INT E", "'bar' INT 'if' COND": the INT is there, and behind it what is due. */
    private static void whatFollowsTheLord() {
        CHECKS.bad("toll", 1, 4);
        CHECKS.bad("toll ;", 1, 5);
        CHECKS.bad("toll (1) 1;", 1, 5);
        CHECKS.bad("toll inn 1;", 1, 5);
        CHECKS.bad("toll 1", 1, 6);
        CHECKS.bad("toll 1;", 1, 6);
        CHECKS.bad("toll 1 + 1;", 1, 7);
        CHECKS.good("toll 1 (1);", 1);
        CHECKS.bad("bar", 1, 3);
        CHECKS.bad("bar if 1 == 1;", 1, 4);
        CHECKS.bad("bar 1", 1, 5);
        CHECKS.bad("bar 1;", 1, 5);
        CHECKS.bad("bar 1 1 if 1 == 1;", 1, 6);
        CHECKS.bad("first if 1 == 1;", 1, 6);
    }

    /** "['if' COND]" of first and toll: there or not, but whole and once. */
    private static void conditionsAreThereOrNot() {
        CHECKS.good("first 1; toll 1 1; first 1 if 1 == 1; toll 1 1 if 1 == 1;", 4);
        CHECKS.bad("first 1 if;", 1, 10);
        CHECKS.bad("first 1 if 1;", 1, 12);
        CHECKS.bad("first 1 if 1 ==;", 1, 15);
        CHECKS.bad("first 1 if 1 == 1 and;", 1, 21);
        CHECKS.bad("first 1 if 1 == 1 or or;", 1, 21);
        CHECKS.bad("first 1 if 1 == 1 == 1;", 1, 18);
        CHECKS.bad("first 1 if 1 == 1 if 1 == 1;", 1, 18);
        CHECKS.bad("first 1 if (1 == 1);", 1, 14);
        CHECKS.bad("first 1 if 1 == 1 and 1;", 1, 23);
        CHECKS.bad("first 1 == 1;", 1, 8);
        CHECKS.bad("first 1 and 1;", 1, 8);
        CHECKS.bad("first (1 == 1);", 1, 9);
    }

    /** "a byte; the text's end: its length": blanks ahead of the end count. */
    private static void theTextsEndIsItsLength() {
        String[] cut = {"first", "first 1", "first (", "first (1", "first 1 +", "first 1 if", "first 1 if 1",
            "first 1 if 1 <", "first 1 if 1 < 2", "first 1 if 1 < 2 or", "toll", "toll 5", "toll 5 1", "bar",
            "bar 5", "bar 5 if", "first 1; bar 5 if 1 == (2"};
        for (String text : cut) {
            CHECKS.bad(text, 1, text.length());
            CHECKS.bad(text + " \n", 1, text.length() + 2);
        }
    }

    /** "FAULTS, the first by its place". */
    private static void theFirstFaultByItsPlace() {
        CHECKS.bad("first ; @ ;", 1, 6);
        // SYNTAX ahead of each ROOM, and each ROOM ahead of SYNTAX.
        CHECKS.bad("first ((((((1) 1 + (((((((1", 1, 15);
        CHECKS.bad("first (((((((@", 2, 12);
        CHECKS.bad("first 1;".repeat(19) + "@" + "first 1;".repeat(2), 1, 152);
        CHECKS.bad("first 1;".repeat(20) + "first@", 2, 160);
        CHECKS.bad("first 1" + "+1".repeat(200) + "@", 2, 6 + 399);
        // A 7th parenthesis, a 21st rule, a 401st token: whichever comes first.
        CHECKS.bad("first 1;".repeat(20) + "first (((((((1", 2, 160);
        CHECKS.bad("first 1;".repeat(19) + "first (((((((1))))))); first 1;", 2, 152 + 12);
        CHECKS.bad("first (((((((1" + "+1".repeat(300), 2, 12);
    }

    /** "of one place the least": what is SYNTAX and ROOM at one place is SYNTAX. */
    private static void ofOnePlaceTheLeast() {
        String twenty = "first 1;".repeat(20);
        CHECKS.bad(twenty + "kind 1;", 1, 160);
        CHECKS.bad(twenty + "firstt 1;", 1, 160);
        CHECKS.bad("first ((((((1(", 1, 13);
        CHECKS.bad("first ((((((1 + 1)(", 1, 18);
        String tokens = tokens(400);
        CHECKS.bad(tokens + "(", 1, tokens.length());
        CHECKS.bad(tokens + "@", 1, tokens.length());
        CHECKS.bad(tokens + " 10000", 1, tokens.length() + 1);
        CHECKS.bad(tokens + " 1", 1, tokens.length() + 1);
    }

    /** "2 ROOM: a 401st TOKEN". */
    private static void a401stToken() {
        CHECKS.good(tokens(399) + ";", 20);
        CHECKS.good(tokens(399) + "; \n", 20);
        String more = tokens(400);
        CHECKS.bad(more + ";", 2, more.length());
        CHECKS.bad(more + "  ;", 2, more.length() + 2);
        CHECKS.bad(more + "+", 2, more.length());
        CHECKS.bad(more + " if 1 == 1;", 2, more.length() + 1);
        // The end of the text is no token.
        CHECKS.bad(more, 1, more.length());
        CHECKS.bad(more + " ", 1, more.length() + 1);
        // Each sort of token counts as one: 'toll', an int, a parenthesis, a word.
        String sorts = "toll 1 (kind)" + "+kind".repeat(195) + " if 1<=1";
        CHECKS.good(sorts + ";", 1);
        CHECKS.bad(sorts + "and 2<3;", 2, sorts.length() + 4);
        CHECKS.bad(sorts + "+2;", 2, sorts.length() + 1);
    }

    /** "a 21st RULE (at its first TOKEN)". */
    private static void a21stRule() {
        String[] rules = {"first 1;", "toll 1 1;", "bar 1 if 1 == 1;"};
        for (String rule : rules) {
            String twenty = rule.repeat(20);
            CHECKS.good(twenty, 20);
            for (String next : rules) {
                CHECKS.bad(twenty + next, 2, twenty.length());
                CHECKS.bad(twenty + " " + next, 2, twenty.length() + 1);
            }
            CHECKS.bad(twenty + "bar", 2, twenty.length());
        }
    }

    /** "a 7th ( within one another (at it)". */
    private static void a7thParenthesis() {
        String[] ahead = {"first ", "toll 1 ", "first 1 + 2 * ", "first 1 if ", "bar 1 if 1 < ",
            "first 1 if 1 == 1 or 2 * "};
        String[] behind = {";", ";", ";", " < 1;", ";", " != 1;"};
        for (int i = 0; i < ahead.length; i++) {
            CHECKS.good(ahead[i] + "((((((1))))))" + behind[i], 1);
            CHECKS.bad(ahead[i] + "(((((((1)))))))" + behind[i], 2, ahead[i].length() + 6);
        }
        // Six that were closed are not around the next.
        CHECKS.good("first ((((((1)))))) + ((((((1))))));", 1);
        CHECKS.good("first (((((1) + (1) * ((1))))));", 1);
        CHECKS.bad("first (((((1) + (((1)))))));", 2, 18);
        CHECKS.good("first " + "(1)+".repeat(7) + "1;", 1);
    }

    /** "5 WRONG: at the INT behind toll, bar: above 4." */
    private static void lordsAboveFour() {
        for (int lord = 0; lord <= 4; lord++) {
            CHECKS.good("toll " + lord + " 1; bar " + lord + " if 1 == 1;", 2);
        }
        CHECKS.good("toll 0004 1;", 1);
        for (String lord : new String[] {"5", "05", "10", "0005", "9999"}) {
            CHECKS.bad("toll  " + lord + " 1;", 5, 6);
            CHECKS.bad("bar\n" + lord + " if 1 == 1;", 5, 4);
        }
        CHECKS.bad("toll 4 1; toll 6 1; bar 7 if 1 == 1;", 5, 15);
        // Another int may be above 4.
        CHECKS.good("first 5 if 6 == 7; toll 4 5 if 8 == 9; bar 4 if 5 == 5;", 3);
    }

    /** "If there is none, likewise": a SYNTAX or ROOM far behind comes ahead of a WRONG. */
    private static void wrongOnlyIfThereIsNoOther() {
        CHECKS.bad("toll 5 1; @", 1, 10);
        CHECKS.bad("toll 5 1; bar 5 if 1 == 1", 1, 25);
        CHECKS.bad("toll 5 1; first (((((((1)))))));", 2, 22);
        CHECKS.bad("toll 5 1;" + "first 1;".repeat(20), 2, 161);
        CHECKS.bad("toll 5 1" + "+1".repeat(300) + ";", 2, 7 + 398);
        CHECKS.bad("first 1;".repeat(19) + "toll 5 1;", 5, 157);
    }

    /** "A text with a FAULT changes nothing". */
    private static void aFaultChangesNothing() {
        String[] faulty = {"first 3; first", "first 3; first (((((((3)))))));", "first 3; toll 5 1;",
            "first 3;".repeat(21), "@", "first 3" + "+3".repeat(200) + ";"};
        for (String text : faulty) {
            CaravanRoad road = small();
            Checks.read(road, "toll 1 7; first 8; bar 1 if day < 3;");
            due("read() of " + text, Checks.read(road, text) > 0 ? 1 : 0, 1);
            due("count(4) behind " + text, road.count(4), 3);
            due("FIRST behind " + text, road.state(0, 0, 0, 6), 8);
            due("barred behind " + text, road.barred(0, 2, 0), 2);
            due("TOLLS behind " + text, road.state(0, 3, 0, 4), 7);
        }
    }

    /** "else it is in place of the one ahead, for all DAYS". */
    private static void aTextIsInPlaceOfTheOneAhead() {
        CaravanRoad road = small();
        Checks.read(road, "toll 1 7; first 8; bar 1 if day < 3;");
        due("comes by the first text", road.comes(0, 0), 3);
        Checks.read(road, "first 9;");
        due("count(4)", road.count(4), 1);
        due("comes by the second text", road.comes(0, 0), 1);
        due("FIRST on day 0", road.state(0, 0, 0, 6), 9);
        due("FIRST on day 1", road.state(0, 1, 0, 6), 9);
        due("no bar", road.barred(0, 1, 0), -1);
        due("no toll", road.tolls(1, 59, 0), 0);
        road.read();
        due("FIRST without rules", road.state(0, 0, 0, 6), 0);
    }

    /** What is shorter than the text ahead has none of it; faulty texts leave nothing, either. */
    private static void nothingIsLeftOfTextsAhead() {
        CaravanRoad road = small();
        String rules = "first 9; toll 1 9; bar 1 if day < 3;";
        for (int i = 0; i < 3; i++) {
            Checks.read(road, rules);
            due("FIRST " + i, road.state(0, 0, 0, 6), 9);
            due("barred " + i, road.barred(0, 1, 0), 2);
        }
        due("read() of nothing", road.read(), 0);
        due("no FIRST", road.state(0, 0, 0, 6), 0);
        due("no bar", road.barred(0, 1, 0), -1);
        due("no toll", road.tolls(1, 59, 0), 0);
        for (int i = 0; i < 3; i++) {
            Checks.read(road, "toll 4 1; bar 3 if 1 == 1;");
        }
        Checks.read(road, "first 8;");
        due("FIRST where a toll was", road.state(0, 0, 0, 6), 8);
        for (int i = 0; i < 20; i++) {
            Checks.read(road, "first 5 if 6 < 1+2*(1+2*(1+2*(1+2*(1+2*(1+2*(");
            Checks.read(road, "toll 5 7 - 1; toll 4 1 - 2 * 3");
        }
        Checks.read(road, "first 1 + 2 * (3 - 4 * (5 + 6)) if 1 + 1 == 2 and 2 <= 3 or 1 == 2;");
        due("FIRST behind faulty texts", road.state(0, 0, 0, 6), 1 + 2 * (3 - 4 * (5 + 6)));
    }

    /** "it is in place of the one ahead": texts of nearly all the TOKENS there may be. */
    private static void longTextsOneBehindAnother() {
        CaravanRoad road = small();
        for (int i = 1; i <= 4; i++) {
            String sum = (i + "+").repeat(196) + i;
            due("read() " + i, Checks.read(road, "first " + sum + ";"), 0);
            due("FIRST " + i, road.state(0, 0, 0, 6), 197 * i);
        }
    }

    /** Rule 19 holds as all others do. */
    private static void theTwentiethRule() {
        CaravanRoad road = small();
        Checks.read(road, "first 1 if 1 == 2;".repeat(19) + "first 7;");
        due("FIRST of rule 19", road.state(0, 0, 0, 6), 7);
        Checks.read(road, "toll 1 1 if 1 == 2;".repeat(19) + "toll 1 7;");
        due("a toll of rule 19", road.tolls(1, 59, 0), 7);
        Checks.read(road, "bar 1 if 1 == 2;".repeat(19) + "bar 1 if day == 1;");
        due("a bar of rule 19", road.barred(0, 1, 0), 19);
    }

    /** "COND: ALL {'or' ALL}. ALL: REL {'and' REL}.": each sign with each other, and one behind another. */
    private static void allAndOr() {
        String[] yes = {"1 == 1", "1 != 2", "1 < 2", "1 <= 1"};
        String[] no = {"1 == 2", "1 != 1", "1 < 1", "2 <= 1"};
        for (int i = 0; i < 4; i++) {
            for (int k = 0; k < 4; k++) {
                holds(yes[i] + " and " + yes[k], true);
                holds(yes[i] + " and " + no[k], false);
                holds(no[i] + " and " + yes[k], false);
                holds(no[i] + " or " + no[k], false);
                holds(yes[i] + " or " + no[k], true);
                holds(no[i] + " or " + yes[k], true);
            }
        }
        for (int bits = 0; bits < 16; bits++) {
            boolean a = (bits & 1) != 0;
            boolean b = (bits & 2) != 0;
            boolean c = (bits & 4) != 0;
            boolean d = (bits & 8) != 0;
            String[] r = {a ? yes[0] : no[0], b ? yes[1] : no[1], c ? yes[2] : no[2], d ? yes[3] : no[3]};
            holds(r[0] + " and " + r[1] + " or " + r[2] + " and " + r[3], a && b || c && d);
            holds(r[0] + " or " + r[1] + " and " + r[2] + " or " + r[3], a || b && c || d);
            holds(r[0] + " or " + r[1] + " or " + r[2] + " and " + r[3], a || b || c && d);
            holds(r[0] + " and " + r[1] + " and " + r[2] + " or " + r[3], a && b && c || d);
        }
    }

    /** Six parentheses within one another, with all operators that can wait for what is within. */
    private static void theDeepestExpressions() {
        String deep = "1";
        int value = 1;
        for (int level = 0; level < 6; level++) {
            deep = "(" + level + " - 3 * " + deep + ")";
            value = level - 3 * value;
        }
        value("9 - 2 * " + deep, 9 - 2 * value);
        value("2 * " + deep + " - 9", 2 * value - 9);
        holds("1 == 2 or 1 == 1 and " + (9000 - 2 * value) + " == 9000 - 2 * " + deep, true);
        holds("1 == 2 or 1 == 1 and " + (9001 - 2 * value) + " == 9000 - 2 * " + deep, false);
        holds("1 == 2 or 1 == 1 and 9000 - 2 * " + deep + " == " + (9000 - 2 * value), true);
    }

    /** "RULES are numbered from 0 on": rules of all sorts, up to 19. */
    private static void rulesAreNumberedFromZero() {
        CaravanRoad road = small();
        for (int ahead = 0; ahead < 20; ahead++) {
            String rules = "first 1;toll 1 1;".repeat(10).substring(0, ahead / 2 * 17 + ahead % 2 * 8);
            Checks.read(road, rules + "bar 1 if 1 == 1;");
            due("count(4) with " + ahead + " ahead", road.count(4), ahead + 1);
            due("the bar behind " + ahead, road.barred(0, 1, 0), ahead);
        }
    }

    /** "Ints of 32 bits that wrap." */
    private static void intsThatWrap() {
        value(MOST, Integer.MAX_VALUE);
        value(MOST + "+1", Integer.MIN_VALUE);
        value("0-" + MOST + "-1", Integer.MIN_VALUE);
        value("0-" + MOST + "-2", Integer.MAX_VALUE);
        value(MOST + "*2", -2);
        value(MOST + "*" + MOST, 1);
        value("(" + MOST + "+1)*(0-1)", Integer.MIN_VALUE);
        value("0-(" + MOST + "+1)", Integer.MIN_VALUE);
        value("9999*9999*9999", 9999 * 9999 * 9999);
    }

    /** Relations are those of the wrapped ints. */
    private static void relationsOfWrappedInts() {
        holds(MOST + "+1 < 0", true);
        holds(MOST + "+1 < " + MOST, true);
        holds(MOST + " < " + MOST + "+1", false);
        holds("0-" + MOST + "-1 <= " + MOST, true);
        holds(MOST + "+1 == 0-" + MOST + "-1", true);
        holds(MOST + "+1 != 0-" + MOST + "-1", false);
        holds(MOST + " <= " + MOST, true);
        holds(MOST + " < " + MOST, false);
        holds("0 <= 0 - 1", false);
        holds("0 - 1 < 0", true);
    }

    /** So many tokens, of twenty rules, the last of which lacks its end. */
    private static String tokens(int number) {
        // 19 rules of 3 tokens, then 'first 1' or 'toll 1 1', then pairs.
        int rest = number - 19 * 3;
        String last = rest % 2 == 0 ? "first 1" : "toll 1 1";
        return "first 1;".repeat(19) + last + "+1".repeat((rest - (rest % 2 == 0 ? 2 : 3)) / 2);
    }

    private static CaravanRoad small() {
        CaravanRoad road = new CaravanRoad();
        road.inn(0, 60, 60);
        road.inn(1, 60, 60);
        road.caravan(0, 1, 1, 0, 1, 0);
        return road;
    }

    private static void value(String expression, int want) {
        CaravanRoad road = small();
        due("read() of " + expression, Checks.read(road, "first " + expression + ";"), 0);
        due(expression, road.state(0, 0, 0, 6), want);
    }

    private static void holds(String condition, boolean want) {
        CaravanRoad road = small();
        due("read() of " + condition, Checks.read(road, "first 5 if " + condition + "; first 6;"), 0);
        due(condition, road.state(0, 0, 0, 6), want ? 5 : 6);
    }

    private static void due(String call, long got, long want) {
        CHECKS.due(call, got, want);
    }
}
