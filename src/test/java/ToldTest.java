/** Promises 6 (look), 7 (wants), 8 (likes), 9 (town), 10 (at) and 39 (count). */
public final class ToldTest {
    private static final String TEXT = "good salt 12;good tea 3;good oil 0;"
        + "float cat 2 5 40 3 wants tea 7 wants salt 0;float dog 3 99 999 99 wants oil 99;"
        + "like cat dog - 20;like dog dog 20;like cat cat 1;"
        + "town t gives oil gives salt ask 1 + 2;town u votes bound ask - pays;storm 99;";

    public static void main(String[] args) {
        FloatTowns x = Check.with(TEXT);
        looks(x);
        wantsAndLikes(x);
        towns(x);
        voting();
        places(x);
        counts(x);
        Check.end("ToldTest");
    }

    private static void looks(FloatTowns x) {
        int[][] figures = {{2, 5, 40, 3}, {3, 99, 999, 99}};
        for (int sort = 0; sort < 2; sort++) {
            for (int what = 0; what < 4; what++) {
                Check.due("look(" + sort + "," + what + ")", x.look(sort, what), figures[sort][what]);
            }
        }
        Check.due("no such sort", Check.lookThrows(x, 2, 0), 1);
        Check.due("no such sort below", Check.lookThrows(x, -1, 0), 1);
        Check.due("no such sort goes ahead", Check.lookThrows(x, 2, 4), 1);
        Check.due("no such what", Check.lookThrows(x, 1, 4), 2);
        Check.due("no such what below", Check.lookThrows(x, 0, -1), 2);
        Check.due("a sort of no text", Check.lookThrows(new FloatTowns(), 0, 0), 1);
        Check.due("far away", Check.lookThrows(x, Integer.MAX_VALUE, 0), 1);
        Check.due("far what", Check.lookThrows(x, 0, Integer.MIN_VALUE), 2);
    }

    private static void wantsAndLikes(FloatTowns x) {
        int[][] wants = {{0, 7, 0}, {0, 0, 99}};
        for (int sort = 0; sort < 2; sort++) {
            for (int good = 0; good < 3; good++) {
                Check.due("wants(" + sort + "," + good + ")", x.wants(sort, good), wants[sort][good]);
            }
        }
        Check.due("wants of no sort", x.wants(2, 0), -1);
        Check.due("wants of no sort below", x.wants(-1, 0), -1);
        Check.due("wants no good", x.wants(0, 3), -1);
        Check.due("wants no good below", x.wants(0, -1), -1);
        Check.due("likes(0,0)", x.likes(0, 0), 1);
        Check.due("likes(0,1)", x.likes(0, 1), -20);
        Check.due("likes(1,0)", x.likes(1, 0), 0);
        Check.due("likes(1,1)", x.likes(1, 1), 20);
        Check.due("likes(2,0)", x.likes(2, 0), -99);
        Check.due("likes(0,2)", x.likes(0, 2), -99);
        Check.due("likes(-1,0)", x.likes(-1, 0), -99);
        Check.due("likes(0,-1)", x.likes(0, -1), -99);
    }

    private static void towns(FloatTowns x) {
        int[][] towns = {{5, 5, 0, 0, 0, 0, -1}, {0, 0, 1, 1, 0, 0, -1}};
        for (int town = 0; town < 2; town++) {
            for (int what = 0; what < 7; what++) {
                Check.due("town(" + town + "," + what + ")", x.town(town, what), towns[town][what]);
            }
        }
        Check.due("town(0,-1)", x.town(0, -1), -1);
        Check.due("town(2,0)", x.town(2, 0), -1);
        Check.due("town(-1,0)", x.town(-1, 0), -1);
        x.go(0, 2, 0);
        x.go(1, 2, 0);
        x.extra(0, -1);
        x.bind(1, false);
        Check.due("floats there", x.town(0, 5), 2);
        Check.due("its extra", x.town(0, 4), -1);
        Check.due("bound no more", x.town(1, 3), 0);
        x.undo();
        x.undo();
        x.undo();
        x.undo();
    }

    /** Salt costs 12: one wants it at 4 by 3 members (12, not above), at 4 by 4 it is above; half are not enough. */
    private static void voting() {
        FloatTowns x = Check.with("good salt 12;good tea 0;float a 4 0 0 0 wants salt 4;float b 4 0 0 0 wants tea 1;"
            + "town t gives salt gives tea votes ask 0;");
        Check.due("nobody gives nothing", x.town(0, 1), 0);
        x.go(0, 1, 0);
        x.go(0, 1, 0);
        x.go(0, 1, 0);
        Check.due("by cost itself not", x.town(0, 1), 0);
        x.go(0, 1, 0);
        Check.due("above cost", x.town(0, 1), 1);
        x.go(1, 1, 0);
        x.go(1, 1, 0);
        x.go(1, 1, 0);
        Check.due("more than half", x.town(0, 1), 1);
        x.go(1, 1, 0);
        Check.due("half is not more", x.town(0, 1), 0);
        x.go(0, 0, 1);
        Check.due("the others have more", x.town(0, 1), 2);
        x = Check.with("good a 5;good b 5;float f 2 0 0 0 wants a 50 wants b 50;town t gives b votes ask 0;");
        x.go(0, 1, 0);
        Check.due("only what it gives", x.town(0, 1), 2);
    }

    private static void places(FloatTowns x) {
        Check.due("at(0,2)", x.at(0, 2), 2);
        Check.due("at(1,2)", x.at(1, 2), 3);
        Check.due("at(1,0)", x.at(1, 0), 0);
        Check.due("at(1,3)", x.at(1, 3), -1);
        Check.due("at(1,-1)", x.at(1, -1), -1);
        Check.due("at(2,0)", x.at(2, 0), -1);
        Check.due("at(-1,0)", x.at(-1, 0), -1);
        x.go(1, 2, 1);
        Check.due("one went", x.at(1, 2), 2);
        Check.due("it is there", x.at(1, 1), 1);
        x.undo();
        FloatTowns full = Check.with("float a 6 0 0 0;float b 6 0 0 0;town t ask 0;town u ask 0;town v ask 0;town w ask 0;");
        for (int i = 0; i < 6; i++) {
            full.go(0, 4, 3);
            full.go(1, 4, i / 2);
        }
        Check.due("six of a sort in the last town", full.at(0, 3), 6);
        Check.due("none alone", full.at(0, 4), 0);
        Check.due("two of the other", full.at(1, 2), 2);
        Check.due("no place behind alone", full.at(0, 5), -1);
        FloatTowns none = Check.with("float a 2 0 0 0;");
        Check.due("alone is place 0 without towns", none.at(0, 0), 2);
        Check.due("and the only one", none.at(0, 1), -1);
    }

    private static void counts(FloatTowns x) {
        int[] counts = {3, 2, 2, 5, 5, 99, 0, 0};
        for (int what = 0; what < 8; what++) {
            Check.due("count(" + what + ")", x.count(what), counts[what]);
        }
        Check.due("count(8)", x.count(8), -1);
        Check.due("count(-1)", x.count(-1), -1);
        x.months(1, 5);
        Check.due("months that were", x.count(6), 5);
        Check.due("what can be undone", x.count(7), 1);
        for (int i = 1; i <= 40; i++) {
            x.extra(0, i);
        }
        Check.due("no more than 30", x.count(7), 30);
    }
}
