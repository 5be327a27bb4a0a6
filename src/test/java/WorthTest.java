/** Promises 11 (worth), 12 (asked), 13 (gain), 22 (total) and 29 (met), and the values of rules. */
public final class WorthTest {
    private static final long UNIT = 27720;

    public static void main(String[] args) {
        rules();
        errors();
        names();
        worths();
        gains();
        totals();
        mets();
        Check.end("WorthTest");
    }

    /** A rule's E is what one float in the town is asked. */
    private static void rule(String rule, long units) {
        FloatTowns x = Check.with("float f 1 0 0 0;town t ask " + rule + ";");
        x.go(0, 1, 0);
        Check.due("E of " + rule, x.asked(0, 0), units);
    }

    private static void rules() {
        rule("7", 7 * UNIT);
        rule("1 + 2 * 3", 7 * UNIT);
        rule("(1 + 2) * 3", 9 * UNIT);
        rule("9 - 4 - 3", 2 * UNIT);
        rule("9 - (4 - 3)", 8 * UNIT);
        rule("24 / 4 / 2", 3 * UNIT);
        rule("24 / 4 * 2", 12 * UNIT);
        rule("24 / (4 * 2)", 3 * UNIT);
        rule("- 2 * 3 + 1", -5 * UNIT);
        rule("- (2 * 3 + 1)", -7 * UNIT);
        rule("2 * - 3", -6 * UNIT);
        rule("2 - - 3", 5 * UNIT);
        rule("- - - 3", -3 * UNIT);
        rule("- (- 3)", 3 * UNIT);
        rule("2 - 3 * 4 + 5", -5 * UNIT);
        rule("1 / 2", UNIT / 2);
        rule("1 / 13", 2132);
        rule("- 1 / 13", -2132);
        rule("1 / - 13", -2132);
        rule("1 / 13 * 13", 27716);
        rule("1 / 13 * (1 / 13)", 163);
        rule("- 1 / 13 * (1 / 13)", -163);
        rule("1 / (1 / 13)", 360412);
        rule("1 / 999 / 999", 0);
        rule("((((((((5))))))))", 5 * UNIT);
        rule("999 * 999", 998001 * UNIT);
    }

    /** The most is 10 to the 12 in units: 36075036 by 27720 and 2080 units. */
    private static void errors() {
        rule("1 / 0", 0);
        rule("- 1 / 0", 0);
        rule("0 / 0", 0);
        rule("5 + 1 / (2 - 2)", 0);
        rule("0 * (1 / 0)", 0);
        rule("1 / (1 / 999 / 999)", 0);
        rule("999 * 999 * 36", 35928036 * UNIT);
        rule("999 * 999 * 37", 0);
        rule("999 * 999 * 37 - 999 * 999 * 36", 0);
        rule("- 999 * 999 * 37", 0);
        rule("- (999 * 999 * 36)", -35928036 * UNIT);
        rule("999 * 999 * 999 * 999 * 999", 0);
        rule("999 * 999 * 36 * 0", 0);
        rule("999 * 999 * 36 + 147 * 999", 36074889 * UNIT);
        rule("999 * 999 * 36 + 147 * 999 + 147", 36075036 * UNIT);
        rule("999 * 999 * 36 + 147 * 999 + 147 + 1", 0);
        rule("- (999 * 999 * 36) - 147 * 999 - 147", -36075036 * UNIT);
        rule("- (999 * 999 * 36) - 147 * 999 - 147 - 1", 0);
        // 52 / 693 is 2080 units, and with them it is the most; 1 / 999 / 27 is one unit
        rule("1 / 999 / 27", 1);
        rule("999 * 999 * 36 + 147 * 999 + 147 + 52 / 693", 1000000000000L);
        rule("999 * 999 * 36 + 147 * 999 + 147 + 52 / 693 + 1 / 999 / 27", 0);
        rule("- (999 * 999 * 36 + 147 * 999 + 147) - 52 / 693", -1000000000000L);
        rule("- (999 * 999 * 36 + 147 * 999 + 147) - 52 / 693 - 1 / 999 / 27", 0);
        rule("(999 * 999 * 36 + 147 * 999 + 147 + 52 / 693) * 1", 1000000000000L);
        rule("(999 * 999 * 36 + 147 * 999 + 147 + 52 / 693) / 1", 1000000000000L);
        rule("(999 * 999 * 36 + 147 * 999 + 147 + 52 / 693) / (999 / 999)", 1000000000000L);
        // 19785 by one unit are so many units; 27721 by 27720 of them are the most and a part, which is cut
        String near = "(999 * 999 * 36 + 145 * 999 + 843 + (19 * 999 + 804) * (1 / 999 / 27))";
        String more = "(999 * 999 * 36 + 145 * 999 + 843 + (19 * 999 + 805) * (1 / 999 / 27))";
        rule(near, 999963926265L);
        rule(near + " * (1 + 1 / 999 / 27)", 999999999999L);
        rule(more + " * (1 + 1 / 999 / 27)", 1000000000000L);
        rule("- " + more + " * (1 + 1 / 999 / 27)", -1000000000000L);
        rule(more.replace("805", "806") + " * (1 + 1 / 999 / 27)", 0);
        rule("- " + more.replace("805", "806") + " * (1 + 1 / 999 / 27)", 0);
        // 73 by 13698630137 is one more than the most
        String part = "(494 * 999 + 672 + (15 * 999 + 992) * (1 / 999 / 27))";
        rule(part, 13698630137L);
        rule(part + " * 73", 0);
        rule("73 * - " + part, 0);
        rule(part.replace("15 * 999 + 992)", "15 * 999 + 991)") + " * 73", 999999999928L);
        rule("999 / (1 / 900 / 28)", 767630001600L);
        rule("(999 + 999) / (1 / 900 / 28)", 0);
        rule("- (999 + 999) / (1 / 900 / 28)", 0);
    }

    private static void names() {
        FloatTowns x = Check.with("good a 7;good b 20;float f 3 9 50 1 wants a 9;float g 2 4 6 0;"
            + "town t gives a gives b ask members * 100 + many * 10 + cost;town u gives a votes ask pays * own + cost;");
        x.go(0, 2, 0);
        x.go(0, 2, 0);
        x.go(1, 2, 0);
        Check.due("of f: 3 members, 2 of it, 27", x.asked(0, 0), 347 * UNIT);
        Check.due("of g: 3 members, 1 of it, 27", x.asked(1, 0), 337 * UNIT);
        Check.due("none there", x.asked(0, 1), Check.MIN);
        x.go(0, 2, 1);
        Check.due("what f pays by its own, and a", x.asked(0, 1), 457 * UNIT);
        x.go(1, 2, 1);
        Check.due("a is not given by half", x.asked(0, 1), 450 * UNIT);
        Check.due("what g pays by its own", x.asked(1, 1), 24 * UNIT);
        x.extra(1, -999);
        Check.due("extra", x.asked(1, 1), -975 * UNIT);
        Check.due("extra of another town", x.asked(1, 0), 337 * UNIT);
        Check.due("asked alone", x.asked(0, 2), Check.MIN);
        Check.due("asked of no sort", x.asked(2, 0), Check.MIN);
        Check.due("asked of no sort below", x.asked(-1, 0), Check.MIN);
        Check.due("asked in no town", x.asked(0, -1), Check.MIN);
        FloatTowns all = Check.with("float a 3 0 0 0;float b 3 0 0 0;float c 2 0 0 0;float d 2 0 0 0;float e 2 7 0 0;"
            + "town t ask 0;town u ask 0;town v ask 0;town w ask members * 10 + many;");
        for (int sort = 0; sort < 5; sort++) {
            for (int i = 0; i < (sort < 2 ? 3 : 2); i++) {
                all.go(sort, 4, 3);
            }
        }
        Check.due("of the last sort, all in the last town", all.asked(4, 3), 122 * UNIT);
        Check.due("of the first sort", all.asked(0, 3), 123 * UNIT);
        Check.due("all", all.total(), -(6 * 123 + 6 * 122) * UNIT);
        FloatTowns y = Check.with("float f 1 0 0 0;town t ask 1 / 0;");
        y.go(0, 1, 0);
        y.extra(0, 3);
        Check.due("extra on an error's 0", y.asked(0, 0), 3 * UNIT);
    }

    private static void worths() {
        FloatTowns x = Check.with("good a 7;float f 3 0 50 0 wants a 9;float g 2 0 6 0;like f f 2;like f g - 5;"
            + "like g f 1;town t gives a ask many;town u gives a votes ask 0;");
        Check.due("alone", x.worth(0, 2, false), 50 * UNIT);
        Check.due("alone if one more comes", x.worth(0, 2, true), 50 * UNIT);
        Check.due("none is in town", x.worth(0, 0, false), Check.MIN);
        Check.due("if it comes: 9 less 1", x.worth(0, 0, true), 8 * UNIT);
        x.go(0, 2, 0);
        Check.due("as it is", x.worth(0, 0, false), 8 * UNIT);
        Check.due("if a second one comes: 9 and 2 less 2", x.worth(0, 0, true), 9 * UNIT);
        Check.due("as it is still", x.worth(0, 0, false), 8 * UNIT);
        Check.due("if g comes: 1 less 1", x.worth(1, 0, true), 0);
        x.go(1, 2, 0);
        x.go(1, 2, 0);
        Check.due("two that it likes not: 9 less 10 less 1", x.worth(0, 0, false), -2 * UNIT);
        Check.due("g does not want itself: 1 less 2", x.worth(1, 0, false), -UNIT);
        Check.due("none of g is alone", x.worth(1, 2, false), Check.MIN);
        Check.due("alone if one came", x.worth(1, 2, true), 6 * UNIT);
        Check.due("a third of two g: 1 less 3", x.worth(1, 0, true), -2 * UNIT);
        x.go(0, 2, 0);
        x.go(0, 2, 0);
        Check.due("three: 9 and 4 less 10 less 3", x.worth(0, 0, false), 0);
        Check.due("a fourth of three: 9 and 6 less 10 less 4", x.worth(0, 0, true), UNIT);
        Check.due("three still", x.worth(0, 0, false), 0);
        Check.due("it votes when it comes: 9 by 1 above 7", x.worth(0, 1, true), 9 * UNIT);
        Check.due("g votes not", x.worth(1, 1, true), 0);
        Check.due("no such place", x.worth(0, 3, true), Check.MIN);
        Check.due("no such place below", x.worth(0, -1, true), Check.MIN);
        Check.due("no such sort", x.worth(2, 0, true), Check.MIN);
        Check.due("no such sort below", x.worth(-1, 0, true), Check.MIN);
        FloatTowns six = Check.with("float f 6 0 0 0;like f f 3;float g 6 0 0 0;town t ask many * members;");
        for (int i = 0; i < 6; i++) {
            six.go(0, 1, 0);
            six.go(1, 1, 0);
        }
        Check.due("a seventh of six: 18 less 7 by 13", six.worth(0, 0, true), -73 * UNIT);
        Check.due("six: 15 less 6 by 12", six.worth(0, 0, false), -57 * UNIT);
        Check.due("of g: 7 by 13", six.worth(1, 0, true), -91 * UNIT);
    }

    private static void gains() {
        FloatTowns x = Check.with("good a 7;float f 3 0 5 2 wants a 9;town t gives a ask many;town u bound ask 1;");
        Check.due("8 less 5 less 2", x.gain(0, 2, 0), UNIT);
        Check.due("-1 less 5 less 2", x.gain(0, 2, 1), -8 * UNIT);
        Check.due("none at a", x.gain(0, 0, 1), Check.MIN);
        Check.due("both the same", x.gain(0, 2, 2), Check.MIN);
        Check.due("no such b", x.gain(0, 2, 3), Check.MIN);
        Check.due("no such b below", x.gain(0, 2, -1), Check.MIN);
        Check.due("no such a", x.gain(0, 3, 0), Check.MIN);
        Check.due("no such a below", x.gain(0, -1, 0), Check.MIN);
        Check.due("no such sort", x.gain(1, 2, 0), Check.MIN);
        Check.due("no such sort below", x.gain(-1, 2, 0), Check.MIN);
        x.go(0, 2, 0);
        x.go(0, 2, 0);
        Check.due("9 less 3 less 5 less 2", x.gain(0, 2, 0), -UNIT);
        Check.due("5 less 7 less 2", x.gain(0, 0, 2), -4 * UNIT);
        x.go(0, 0, 1);
        Check.due("from a bound town, too: 5 and 1 less 2", x.gain(0, 1, 2), 4 * UNIT);
        Check.due("9 less 2 and 1 less 2", x.gain(0, 1, 0), 6 * UNIT);
    }

    private static void totals() {
        Check.due("of nobody", new FloatTowns().total(), 0);
        FloatTowns x = Check.with("good a 7;float f 3 0 5 2 wants a 9;float g 2 1 4 0;like g f 1;"
            + "town t gives a ask many;");
        Check.due("3 by 5 and 2 by 4", x.total(), 23 * UNIT);
        x.go(0, 1, 0);
        Check.due("8 and 10 and 8", x.total(), 26 * UNIT);
        x.go(1, 1, 0);
        Check.due("8 and 0, 10, 4", x.total(), 22 * UNIT);
        x.extra(0, 10);
        Check.due("20 less", x.total(), 2 * UNIT);
        Check.due("20 less and below 0", x.extra(0, 100) ? x.total() : 0, -178 * UNIT);
    }

    private static void mets() {
        FloatTowns x = Check.with("good a 7;float f 3 0 5 2;town t gives a ask 3;town u ask 0;town v gives a votes ask 0;");
        Check.due("an empty town that gives", x.met(0), 0);
        Check.due("an empty town that gives nothing", x.met(1), 1);
        Check.due("an empty town that votes", x.met(2), 1);
        Check.due("no such town", x.met(3), -1);
        Check.due("no such town below", x.met(-1), -1);
        x.go(0, 3, 0);
        x.go(0, 3, 0);
        Check.due("6 of 7", x.met(0), 0);
        x.go(0, 3, 0);
        Check.due("9 of 7", x.met(0), 1);
        x.extra(0, -1);
        Check.due("6 of 7 with extra", x.met(0), 0);
        x = Check.with("good a 7;float f 1 0 5 2;town t gives a ask 7;town u ask - 1;");
        x.go(0, 2, 0);
        Check.due("the cost itself", x.met(0), 1);
        x.go(0, 0, 1);
        Check.due("below nothing", x.met(1), 0);
        x = Check.with("good a 1;float f 3 0 5 2;town t gives a ask 1 / 3;town u gives a ask 1 / 13 * 13;");
        x.go(0, 2, 0);
        x.go(0, 2, 0);
        x.go(0, 2, 0);
        Check.due("three thirds", x.met(0), 1);
        x.go(0, 0, 1);
        Check.due("a little less", x.met(1), 0);
        x = Check.with("good a 1;float f 1 0 5 2;town t gives a ask 1 - 1 / 999 / 27;");
        x.go(0, 1, 0);
        Check.due("a unit less", x.met(0), 0);
    }
}
