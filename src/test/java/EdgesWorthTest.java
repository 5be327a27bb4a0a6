/**
 * The document's section 2 up to WORTH and GAIN, and promises 6 to 13, 22, 29 and 39: each sentence that names an
 * edge, and behind it what it asks on both sides of the edge.
 */
public final class EdgesWorthTest {
    private static final long UNIT = 27720;
    private static final String TWO = "good salt 12;good tea 3;float cat 2 5 40 3 wants tea 7;float dog 3 9 20 1;"
        + "like cat dog - 20;like dog dog 20;town t gives tea ask 1;town u gives salt votes bound ask 2;storm 7;";

    public static void main(String[] args) {
        looks();
        wantsAndLikes();
        towns();
        places();
        counts();
        valuesCut();
        errors();
        wraps();
        names();
        votes();
        worths();
        askeds();
        gains();
        totals();
        mets();
        Check.end("EdgesWorthTest");
    }

    // ---- what is told ----

    private static void looks() {
        FloatTowns x = Check.with(TWO);
        Check.sentence("IndexOutOfBoundsException: no such SORT.");
        for (int sort : Check.FAR) {
            Check.due("look(" + sort + ",0)", Check.lookThrows(x, sort, 0), 1);
        }
        Check.due("the first beyond", Check.lookThrows(x, 2, 0), 1);
        Check.due("the last one is", Check.lookThrows(x, 1, 3), 0);
        Check.due("of no text", Check.lookThrows(new FloatTowns(), 0, 0), 1);

        Check.sentence("NoSuchElementException: no such what.");
        for (int what : Check.FAR) {
            Check.due("look(0," + what + ")", Check.lookThrows(x, 0, what), 2);
        }
        Check.due("the first beyond", Check.lookThrows(x, 1, 4), 2);
        Check.due("the last one is", x.look(1, 3), 1);

        Check.sentence("IndexOutOfBoundsException goes ahead of NoSuchElementException.");
        for (int sort : Check.FAR) {
            for (int what : Check.FAR) {
                Check.due("look(" + sort + "," + what + ")", Check.lookThrows(x, sort, what), 1);
            }
        }
        Check.due("both the first beyond", Check.lookThrows(x, 2, 4), 1);
        Check.due("thrown, it changes nothing", x.count(7), 0);
    }

    private static void wantsAndLikes() {
        FloatTowns x = Check.with(TWO);
        Check.sentence("What a GOOD is worth to a SORT; NONE: no such ones.");
        Check.due("told", x.wants(0, 1), 7);
        Check.due("without", x.wants(1, 1), 0);
        Check.due("the sort beyond", x.wants(2, 1), -1);
        Check.due("the good beyond", x.wants(0, 2), -1);
        for (int far : Check.FAR) {
            Check.due("no such sort", x.wants(far, 0), -1);
            Check.due("no such good", x.wants(0, far), -1);
            Check.due("neither", x.wants(far, far), -1);
        }

        Check.sentence("What a SORT likes one of another; -99: no such ones.");
        Check.due("told", x.likes(0, 1), -20);
        Check.due("of its own", x.likes(1, 1), 20);
        Check.due("without", x.likes(1, 0), 0);
        Check.due("the sort beyond", x.likes(2, 0), -99);
        Check.due("the other beyond", x.likes(0, 2), -99);
        for (int far : Check.FAR) {
            Check.due("no such sort", x.likes(far, 0), -99);
            Check.due("no such other", x.likes(0, far), -99);
        }
    }

    private static void towns() {
        FloatTowns x = Check.with(TWO);
        Check.sentence("Of a TOWN, what 0: GOODS that it gives, 1: that are GIVEN now (bits), 2: whether it votes, "
            + "3: is BOUND (1, 0), 4: EXTRA, 5: how many floats. NONE: no such ones.");
        int[][] due = {{2, 2, 0, 0, 0, 0, -1}, {1, 0, 1, 1, 0, 0, -1}};
        for (int town = 0; town < 2; town++) {
            for (int what = 0; what < 7; what++) {
                Check.due("town(" + town + "," + what + ")", x.town(town, what), due[town][what]);
            }
        }
        Check.due("alone is no town", x.town(2, 0), -1);
        for (int far : Check.FAR) {
            Check.due("no such town", x.town(far, 0), -1);
            if (far != 5) {
                Check.due("no such what", x.town(0, far), -1);
            }
        }
    }

    private static void places() {
        Check.sentence("how many of each SORT are in each PLACE (at first all are ALONE)");
        FloatTowns x = Check.with(TWO);
        for (int sort = 0; sort < 2; sort++) {
            Check.due("in t", x.at(sort, 0), 0);
            Check.due("in u", x.at(sort, 1), 0);
            Check.due("alone", x.at(sort, 2), x.look(sort, 0));
        }

        Check.sentence("How many of a SORT are in a PLACE; NONE: no such ones.");
        Check.due("the place beyond", x.at(0, 3), -1);
        Check.due("the sort beyond", x.at(2, 0), -1);
        for (int far : Check.FAR) {
            Check.due("no such place", x.at(0, far), -1);
            Check.due("no such sort", x.at(far, 0), -1);
        }

        Check.sentence("A PLACE is a TOWN, or behind all TOWNS ALONE.");
        x = Check.with("float f 6 0 0 0;");
        Check.due("without towns alone is place 0", x.at(0, 0), 6);
        Check.due("and the last one", x.at(0, 1), -1);
        x = Check.with("float f 6 0 0 0;town a ask 1;town b ask 1;town c ask 1;town d ask 1;");
        Check.due("with four it is place 4", x.at(0, 4), 6);
        Check.due("the fourth town", x.at(0, 3), 0);
        for (int i = 0; i < 6; i++) {
            x.go(0, 4, 3);
        }
        Check.due("full, the fourth town has six", x.at(0, 3), 6);
        Check.due("empty, alone has none", x.at(0, 4), 0);
        x = Check.with("float v 1 0 0 0;float w 1 0 0 0;float x 2 0 0 0;float y 2 0 0 0;float z 6 0 0 0;"
            + "town a ask 1;town b ask 1;town c ask 1;town d ask 1;");
        for (int town = 0; town < 4; town++) {
            for (int i = 0; i < 6; i++) {
                x.go(4, town == 0 ? 4 : town - 1, town);
            }
            x.go(3, 4, town);
            for (int place = 0; place < 5; place++) {
                Check.due("six of the fifth sort", x.at(4, place), place == town ? 6 : 0);
                Check.due("of the fourth sort", x.at(3, place),
                    place == 4 ? Math.max(0, 1 - town) : place <= Math.min(town, 1) ? 1 : 0);
            }
        }
    }

    private static void counts() {
        Check.sentence("0 GOODS, 1 SORTS, 2 TOWNS, 3 floats, 4 KNOTS, 5 storm (0), 6 MONTHS, 7 what can be undone. "
            + "NONE for another what.");
        FloatTowns x = Check.with(TWO);
        x.months(1, 9);
        x.undo();
        x.go(0, 2, 0);
        x.months(1, 5);
        int[] due = {2, 2, 2, 5, 2, 7, 5, 2};
        for (int what = 0; what < 8; what++) {
            Check.due("count(" + what + ")", x.count(what), due[what]);
        }
        for (int what : new int[] {8, 9, 31, Integer.MAX_VALUE, -1, -2, Integer.MIN_VALUE}) {
            Check.due("count(" + what + ")", x.count(what), -1);
        }
        Check.due("without a storm", new FloatTowns().count(5), 0);
    }

    // ---- values ----

    /** A rule's E is what one float, alone in the town, is asked. */
    private static void rule(String rule, long units) {
        FloatTowns x = Check.with("float f 1 7 50 0;town t ask " + rule + ";");
        x.go(0, 1, 0);
        Check.due("E of " + rule, x.asked(0, 0), units);
    }

    private static void valuesCut() {
        Check.sentence("* the product by 27720, / the quotient times 27720, cut towards 0 each; "
            + "- P: below 0 what P is above");
        rule("1 / 13", 2132);
        rule("- 1 / 13", -2132);
        rule("1 / - 13", -2132);
        rule("- 1 / - 13", 2132);
        rule("1 / 13 * (1 / 13)", 163);
        rule("- 1 / 13 * (1 / 13)", -163);
        rule("1 / 13 * (- 1 / 13)", -163);
        rule("1 / 13 * 13", 27716);
        rule("5 / 4", 34650);
        rule("27 / 999 / 27", 27);
        rule("1 / 999 / 27", 1);
        rule("1 / 999 / 27 / 2", 0);
        rule("- 1 / 999 / 27 / 2", 0);
        rule("1 / 999 / 27 * (1 - 1 / 999)", 0);
        rule("1 / 999 / 27 * 999", 999);
        rule("0 / 5", 0);
        rule("- 0", 0);
        rule("- - 5", 5 * UNIT);
        rule("3 - 5", -2 * UNIT);

        Check.sentence("S: T { ( + | - ) T }. T: P { ( * | / ) P }.");
        rule("9 - 4 - 3", 2 * UNIT);
        rule("24 / 4 / 2", 3 * UNIT);
        rule("24 / 4 * 2", 12 * UNIT);
        rule("1 + 2 * 3", 7 * UNIT);
        rule("2 * 3 + 1", 7 * UNIT);
        rule("9 - 6 / 3 - 1", 6 * UNIT);
        rule("(1 + 2) * 3", 9 * UNIT);
        rule("- 2 + 3", UNIT);
        rule("- (2 + 3)", -5 * UNIT);
        rule("2 * - 3 + 1", -5 * UNIT);
    }

    /** 10 to the 12 are 36075036 and 2080 units; 52 / 693 is 2080 units, and 1 / 999 / 27 is one. */
    private static void errors() {
        String most = "(999 * 999 * 36 + 147 * 999 + 147 + 52 / 693)";
        String unit = "1 / 999 / 27";
        Check.sentence("ERROR: / by 0, a value above 10 to the 12 or below 0 by more than that: "
            + "the RULE's E is as 0 then.");
        rule("1 / 0", 0);
        rule("5 + 0 / 0", 0);
        rule("5 + 1 / (3 - 3)", 0);
        rule("5 + 1 / (" + unit + " / 2)", 0);
        rule("5 + 0 * (1 / 0)", 0);
        rule("5 - - (1 / 0)", 0);
        rule("5 + 1 / - 0", 0);
        rule("5 + 1 / (" + unit + ")", 5 * UNIT + 27720 * UNIT);
        long billion = 1000000000000L;
        rule(most, billion);
        rule(most + " + " + unit, 0);
        rule(most + " + " + unit + " - " + unit, 0);
        rule(most + " - - (" + unit + ")", 0);
        rule(most + " - " + unit, billion - 1);
        rule("- " + most, -billion);
        rule("- " + most + " - " + unit, 0);
        rule("- " + most + " - " + unit + " + 5", 0);
        rule("- " + most + " + " + unit, 1 - billion);
        rule(most + " * 1", billion);
        rule(most + " / 1", billion);
        rule("- " + most + " * 1", -billion);
        rule("- " + most + " / 1", -billion);
        rule(most + " / - 1", -billion);
        rule(most + " * (1 + " + unit + ")", 0);
        rule(most + " / (1 - " + unit + ")", 0);
        rule(most + " * 2 / 2", 0);
        rule(most + " / 2 * 2", billion);
        // 73 by 13698630137 is one more than the most; a part of a unit more than the most is cut
        String part = "(494 * 999 + 672 + (15 * 999 + 992) * (" + unit + "))";
        rule(part, 13698630137L);
        rule(part + " * 73", 0);
        rule("73 * - " + part, 0);
        rule("(" + part + " - " + unit + ") * 73", billion + 1 - 73);
        String near = "(999 * 999 * 36 + 145 * 999 + 843 + (19 * 999 + 805) * (" + unit + "))";
        rule(near + " * (1 + " + unit + ")", billion);
        rule("- " + near + " * (1 + " + unit + ")", -billion);
        rule("(" + near + " + " + unit + ") * (1 + " + unit + ")", 0);
        rule("999 * 999 * 999 * 0", 0);
        rule("999 * 999 * 999 * 0 + 5", 0);
        FloatTowns x = Check.with("float f 1 0 9 0;town t ask 7 + 1 / 0;town u ask 1 / (many - 1);");
        x.go(0, 2, 0);
        x.extra(0, -3);
        Check.due("extra is asked all the same", x.asked(0, 0), -3 * UNIT);
        Check.due("an error for one, none for two", x.worth(0, 1, true), 0);
        x = Check.with("float f 2 0 9 0;town t ask 1 / (many - 1);");
        x.go(0, 1, 0);
        Check.due("an error for one", x.worth(0, 0, false), 0);
        Check.due("for two it is none", x.worth(0, 0, true), -UNIT);
    }

    /** Products that run over a long and would look small: 2 to the 32 units by one more number of 27720. */
    private static void wraps() {
        String wide = "(155 * 999 + 96 + 1 / 10 + 4 * (1 / 999 / 27))";
        Check.sentence("VALUES are longs in UNITS: N is N times 27720");
        rule(wide, 1L << 32);
        rule(wide + " * (1 + " + wide + ")", 0);
        rule("- " + wide + " * (1 + " + wide + ")", 0);
        rule("5 + " + wide + " * " + wide, 0);
        rule("(" + wide + " + 1) * - (" + wide + " + 1) + 5", 0);
        rule(wide + " / " + wide, UNIT);
        rule("999 * 999 * 36 / (1 / 999 / 27) + 5", 0);
    }

    private static void names() {
        Check.sentence("members: how many floats are there; many: how many of its SORT; "
            + "cost: COSTS of the GOODS that are GIVEN; pays, own: of its SORT.");
        FloatTowns x = Check.with("good a 999;good b 998;float f 6 0 0 0;float g 6 99 999 0;"
            + "town t gives a gives b ask members * 100 + many;town u gives a gives b ask cost;town v gives a votes ask cost;"
            + "town w ask pays * 10 + own;");
        for (int i = 0; i < 6; i++) {
            x.go(0, 4, 0);
            x.go(1, 4, 0);
        }
        Check.due("twelve, six of it", x.asked(0, 0), 1206 * UNIT);
        Check.due("if a seventh came", x.worth(0, 0, true), -1307 * UNIT);
        x.go(1, 0, 3);
        Check.due("eleven, six", x.asked(0, 0), 1106 * UNIT);
        Check.due("eleven, five", x.asked(1, 0), 1105 * UNIT);
        Check.due("what it pays and its own", x.asked(1, 3), 1989 * UNIT);
        Check.due("nothing of both", x.worth(0, 3, true), 0);
        x.go(0, 0, 1);
        Check.due("of all that are given", x.asked(0, 1), 1997 * UNIT);
        x.go(0, 0, 2);
        Check.due("of none that is not given", x.asked(0, 2), 0);
        x = Check.with("float a 3 0 0 0;float b 3 0 0 0;float c 2 0 0 0;float d 2 0 0 0;float e 2 7 0 0;"
            + "town t ask 0;town u ask 0;town v ask 0;town w ask members * 10 + many;");
        for (int i = 0; i < 12; i++) {
            x.go(i % 5, 4, 3);
            x.go(i % 2, 4, 3);
        }
        Check.due("all twelve, two of it", x.asked(4, 3), 122 * UNIT);
        Check.due("all twelve, three of it", x.asked(0, 3), 123 * UNIT);
    }

    private static void votes() {
        Check.sentence("if it votes, those for which more than half of its floats want it for more than its COST by members "
            + "(want times members above COST)");
        FloatTowns x = Check.with("good a 12;float f 4 0 0 0 wants a 4;float g 4 0 0 0 wants a 3;float h 4 0 0 0;"
            + "town t gives a votes ask 0;town u gives a ask 0;");
        Check.due("empty, none", x.town(0, 1), 0);
        Check.due("empty, without vote all", x.town(1, 1), 1);
        for (int i = 0; i < 3; i++) {
            x.go(0, 2, 0);
            Check.due("4 by 3 are 12, not above", x.town(0, 1), 0);
        }
        x.go(0, 2, 0);
        Check.due("4 by 4 are above", x.town(0, 1), 1);
        for (int i = 0; i < 3; i++) {
            x.go(2, 2, 0);
            Check.due("four of seven are more than half", x.town(0, 1), 1);
        }
        x.go(2, 2, 0);
        Check.due("four of eight are half", x.town(0, 1), 0);
        x.go(2, 0, 2);
        x.go(0, 0, 2);
        Check.due("three of six are half", x.town(0, 1), 0);
        x.go(1, 2, 0);
        Check.due("four of seven, 3 by 7 above", x.town(0, 1), 1);
        x = Check.with("good a 0;good b 0;float f 1 0 0 0 wants a 1;town t gives a gives b votes ask cost;");
        x.go(0, 1, 0);
        Check.due("1 by 1 is above 0, 0 is not", x.town(0, 1), 1);
        x = Check.with("good a 0;good b 5;float f 1 0 0 0 wants a 9 wants b 9;town t gives b votes ask cost;");
        x.go(0, 1, 0);
        Check.due("only what it gives", x.town(0, 1), 2);
        Check.due("its cost alone", x.asked(0, 0), 5 * UNIT);
    }

    // ---- worth ----

    private static void worths() {
        Check.sentence("as it is there, or, if comes, as if one more of it were there (of those ALONE: OWN).");
        FloatTowns x = Check.with("good a 7;float f 2 0 50 0 wants a 9;float g 1 0 999 0;like f f 2;like f g - 5;"
            + "town t gives a ask many;");
        Check.due("alone, as it is", x.worth(0, 1, false), 50 * UNIT);
        Check.due("alone, if one comes", x.worth(0, 1, true), 50 * UNIT);
        Check.due("the first", x.worth(0, 0, true), 8 * UNIT);
        x.go(0, 1, 0);
        Check.due("as it is", x.worth(0, 0, false), 8 * UNIT);
        Check.due("a second", x.worth(0, 0, true), 9 * UNIT);
        x.go(1, 1, 0);
        x.go(0, 1, 0);
        Check.due("two and g", x.worth(0, 0, false), 4 * UNIT);
        Check.due("all are there, and one more", x.worth(0, 0, true), 5 * UNIT);
        Check.due("nobody is alone, if one comes", x.worth(0, 1, true), 50 * UNIT);
        Check.due("of the others, too", x.worth(1, 1, true), 999 * UNIT);

        Check.sentence("Long.MIN_VALUE: no such ones; none is there.");
        Check.due("none alone", x.worth(0, 1, false), Check.MIN);
        x.go(1, 0, 1);
        Check.due("none of it in t", x.worth(1, 0, false), Check.MIN);
        Check.due("if it comes, it is there", x.worth(1, 0, true), -UNIT);
        for (boolean comes : new boolean[] {false, true}) {
            Check.due("the place beyond", x.worth(0, 2, comes), Check.MIN);
            Check.due("the sort beyond", x.worth(2, 0, comes), Check.MIN);
            for (int far : Check.FAR) {
                Check.due("no such place", x.worth(0, far, comes), Check.MIN);
                Check.due("no such sort", x.worth(far, 0, comes), Check.MIN);
            }
        }
    }

    private static void askeds() {
        Check.sentence("ASKED: the RULE's E, and EXTRA of the TOWN (0 at first).");
        FloatTowns x = Check.with("float f 1 0 9 0;town t ask - 5;town u ask 5;");
        x.go(0, 2, 0);
        Check.due("extra 0 at first", x.town(0, 4), 0);
        Check.due("the rule's", x.asked(0, 0), -5 * UNIT);
        x.extra(0, -999);
        Check.due("the least extra", x.asked(0, 0), -1004 * UNIT);
        x.extra(0, 999);
        Check.due("the most extra", x.asked(0, 0), 994 * UNIT);
        Check.due("its worth", x.worth(0, 0, false), -994 * UNIT);
        Check.due("another town's is its own", x.worth(0, 1, true), -5 * UNIT);

        Check.sentence("What is ASKED of one of a SORT that is in a TOWN. Long.MIN_VALUE: no such ones; none is there.");
        Check.due("none in u", x.asked(0, 1), Check.MIN);
        Check.due("alone is no town", x.asked(0, 2), Check.MIN);
        x.go(0, 0, 2);
        Check.due("who is alone is asked nothing", x.asked(0, 2), Check.MIN);
        Check.due("none in t", x.asked(0, 0), Check.MIN);
        x.go(0, 2, 0);
        Check.due("the sort beyond", x.asked(1, 0), Check.MIN);
        for (int far : Check.FAR) {
            Check.due("no such town", x.asked(0, far), Check.MIN);
            Check.due("no such sort", x.asked(far, 0), Check.MIN);
        }
    }

    private static void gains() {
        Check.sentence("GAIN; Long.MIN_VALUE: no such ones, none at a, both the same.");
        FloatTowns x = Check.with("float f 1 0 9 4;town t bound ask - 20;town u ask 0;");
        Check.due("20 less 9, 4", x.gain(0, 2, 0), 7 * UNIT);
        Check.due("0 less 9, 4", x.gain(0, 2, 1), -13 * UNIT);
        x.go(0, 2, 0);
        Check.due("bound or not: 9 less 20, 4", x.gain(0, 0, 2), -15 * UNIT);
        Check.due("none at a", x.gain(0, 1, 2), Check.MIN);
        Check.due("none alone", x.gain(0, 2, 1), Check.MIN);
        Check.due("both the same", x.gain(0, 0, 0), Check.MIN);
        Check.due("the place beyond", x.gain(0, 0, 3), Check.MIN);
        Check.due("the sort beyond", x.gain(1, 0, 1), Check.MIN);
        for (int far : Check.FAR) {
            Check.due("no such a", x.gain(0, far, 1), Check.MIN);
            Check.due("no such b", x.gain(0, 0, far), Check.MIN);
            Check.due("no such sort", x.gain(far, 0, 1), Check.MIN);
            Check.due("both the same, and none", x.gain(0, far, far), Check.MIN);
        }
    }

    private static void totals() {
        Check.sentence("TOTAL: the sum of WORTH of all floats.");
        Check.due("of nobody", new FloatTowns().total(), 0);
        FloatTowns x = Check.with("float f 6 0 999 0;float g 6 0 999 0;like f g 20;like g f 20;"
            + "town t ask - (999 * 999 * 36);");
        Check.due("twelve alone", x.total(), 12 * 999 * UNIT);
        for (int i = 0; i < 6; i++) {
            x.go(0, 1, 0);
            x.go(1, 1, 0);
        }
        Check.due("twelve together", x.total(), 12 * (120 + 35928036L) * UNIT);
        x = Check.with("float f 6 0 0 0;float g 6 0 0 0;town t ask 999 * 999 * 36;");
        x.go(0, 1, 0);
        x.go(1, 1, 0);
        Check.due("two, far below 0", x.total(), -2 * 35928036L * UNIT);
    }

    private static void mets() {
        Check.sentence("MET: what is ASKED of all in a TOWN is COST at least.");
        FloatTowns x = Check.with("good a 3;float f 3 0 9 0;town t gives a ask 1;town u gives a ask 1 - 1 / 999 / 27;"
            + "town v ask - 1 / 999 / 27;");
        x.go(0, 3, 0);
        x.go(0, 3, 0);
        Check.due("2 of 3", x.met(0), 0);
        x.go(0, 3, 0);
        Check.due("3 of 3", x.met(0), 1);
        for (int i = 0; i < 3; i++) {
            x.go(0, 0, 1);
        }
        Check.due("3 units less", x.met(1), 0);
        x.extra(1, 1);
        Check.due("3 more", x.met(1), 1);
        x.go(0, 1, 2);
        Check.due("a unit below no cost", x.met(2), 0);
        x.extra(2, 1);
        Check.due("above no cost", x.met(2), 1);

        Check.sentence("MET (1, 0; of an empty TOWN by nothing GIVEN: 1); NONE: no such TOWN.");
        x = Check.with("good a 3;good b 0;float f 1 0 0 0;town t ask - 5;town u gives a votes ask - 5;town v gives b ask - 5;"
            + "town w gives a ask 5;");
        Check.due("empty, it gives nothing", x.met(0), 1);
        Check.due("empty, it votes", x.met(1), 1);
        Check.due("empty, what it gives costs nothing", x.met(2), 1);
        Check.due("empty, and its good costs", x.met(3), 0);
        Check.due("alone is no town", x.met(4), -1);
        for (int far : Check.FAR) {
            Check.due("no such town", x.met(far), -1);
        }
    }
}
