/** Promises 20 (all), 21 (held), 23 (lost) and 24 (best). */
public final class SurveyTest {
    private static final long UNIT = 27720;

    public static void main(String[] args) {
        counts();
        order();
        spent();
        losses();
        noneHolds();
        bests();
        terms();
        Check.end("SurveyTest");
    }

    private static void counts() {
        Check.due("of nobody one", new FloatTowns().all(0), 1);
        Check.due("and it holds", new FloatTowns().all(1), 1);
        FloatTowns x = Check.with("float f 6 0 0 0;float g 3 0 0 0;");
        Check.due("without towns one", x.all(0), 1);
        Check.due("that holds", x.all(1), 1);
        Check.due("all(2)", x.all(2), -1);
        Check.due("all(-1)", x.all(-1), -1);
        x = Check.with("float f 6 0 0 0;town a ask 0;town b ask 0;town c ask 0;town d ask 0;");
        Check.due("six in five places", x.all(0), 210);
        Check.due("nobody cares", x.all(1), 210);
        x = Check.with("float f 2 0 0 0;float g 3 0 0 0;town a ask 1;town b ask 1;");
        Check.due("6 by 10", x.all(0), 60);
        Check.due("all alone", x.all(1), 1);
    }

    /** The order goes by sort 0 in place 0, then in place 1, then by sort 1 in place 0, .., the fewest first. */
    private static void order() {
        FloatTowns x = Check.with("float f 2 0 0 0;float g 1 0 0 0;town a ask 0;town b ask 0;");
        int[][] due = {{0, 0, 2}, {0, 1, 1}, {0, 2, 0}, {1, 0, 1}, {1, 1, 0}, {2, 0, 0}};
        int[][] one = {{0, 0, 1}, {0, 1, 0}, {1, 0, 0}};
        Check.due("all hold", x.all(1), 18);
        for (int k = 0; k < 18; k++) {
            for (int place = 0; place < 3; place++) {
                Check.due("held(" + k + ",0," + place + ")", x.held(k, 0, place), due[k / 3][place]);
                Check.due("held(" + k + ",1," + place + ")", x.held(k, 1, place), one[k % 3][place]);
            }
        }
        Check.due("held(18,0,0)", x.held(18, 0, 0), -1);
        Check.due("held(-1,0,0)", x.held(-1, 0, 0), -1);
        Check.due("held(0,2,0)", x.held(0, 2, 0), -1);
        Check.due("held(0,-1,0)", x.held(0, -1, 0), -1);
        Check.due("held(0,0,3)", x.held(0, 0, 3), -1);
        Check.due("held(0,0,-1)", x.held(0, 0, -1), -1);
        Check.due("nothing is changed", x.at(0, 2), 2);
        x = Check.with("float f 2 0 0 0;float g 1 0 0 0;town a ask 0;town b ask 0;");
        x.go(0, 2, 1);
        x.go(1, 2, 0);
        Check.due("all, wherever they are now", x.all(1), 18);
        Check.due("the first", x.held(0, 0, 2), 2);
        Check.due("the second", x.held(1, 1, 1), 1);
        Check.due("the last", x.held(17, 0, 0), 2);
    }

    private static void spent() {
        String towns = "town a ask 0;town b ask 0;town c ask 0;";
        FloatTowns x = Check.with("float f 6 0 0 0;float g 4 0 0 0;" + towns);
        Check.due("84 by 35 are 2940", x.all(0), 2940);
        Check.due("all hold", x.all(1), 2940);
        Check.due("the last one", x.held(2939, 0, 0), 6);
        Check.due("the last one's g", x.held(2939, 1, 0), 4);
        Check.due("behind it", x.held(2940, 0, 0), -1);
        x = Check.with("float f 6 0 0 0;float g 5 0 0 0;" + towns);
        Check.due("84 by 56 are too many", x.all(0), -2);
        Check.due("of those that hold, too", x.all(1), -2);
        Check.due("no such what first", x.all(2), -1);
        Check.due("held", x.held(0, 0, 0), -2);
        Check.due("held is spent first", x.held(-1, 9, 9), -2);
        Check.due("lost(0)", x.lost(0), -2);
        Check.due("lost(1)", x.lost(1), -2);
        Check.due("lost(2)", x.lost(2), -2);
        Check.due("lost(3) first", x.lost(3), Check.MIN);
        Check.due("lost(-1) first", x.lost(-1), Check.MIN);
        Check.due("best", x.best(), false);
        Check.due("total all the same", x.total(), 0);
        Check.due("first all the same", x.first(0), -1);
        x = Check.with("float f 1 0 0 0;float g 1 0 0 0;float h 4 0 0 0;float i 3 0 0 0;" + "town a ask 0;town b ask 0;");
        Check.due("3 by 3 by 15 by 10", x.all(0), 1350);
        x = Check.with("float f 1 0 0 0;float g 3 0 0 0;float h 3 0 0 0;float i 3 0 0 0;town a ask 0;town b ask 0;");
        Check.due("3 by 10 by 10 by 10, the most that are told", x.all(0), 3000);
        Check.due("and all hold", x.all(1), 3000);
        Check.due("the last one", x.held(2999, 3, 0), 3);
        x = Check.with("float f 6 0 0 0;float g 6 0 0 0;" + towns + "town d ask 0;");
        Check.due("210 by 210", x.all(0), -2);
        x = Check.with("float f 3 0 0 0;float g 3 0 0 0;float h 2 0 0 0;float i 2 0 0 0;float j 2 0 0 0;"
            + towns + "town d ask 0;");
        Check.due("the most of all", x.all(0), -2);
        Check.due("and who goes", x.party(12, 0), -1);
    }

    /** Two that share a town lose by it; each alone would not see that. */
    private static void losses() {
        FloatTowns x = Check.with("float f 2 0 0 0;like f f - 3;town t ask - 4;town u ask - 1;");
        // both in t: 1 each, 2; t and u: 4 and 1, 5; in u both: below 0
        Check.due("the best", x.lost(0), 5 * UNIT);
        Check.due("it holds", x.lost(1), 0);
        Check.due("the worst that holds", x.lost(2), 3 * UNIT);
        Check.due("two hold", x.all(1), 2);
        Check.due("lost(3)", x.lost(3), Check.MIN);
        x = Check.with("good a 1;float f 2 0 5 0 wants a 7;float g 1 0 5 0 wants a 9;like g f - 9;"
            + "town t gives a ask 1;town u gives a ask 2;");
        Check.due("two of 6 and one of 7", x.lost(0), 19 * UNIT);
        Check.due("that holds", x.lost(1), 0);
        x = Check.with("float f 2 0 3 0;town t ask 1;town u ask 0;");
        Check.due("all alone are the best, and the first of all", x.lost(0), 6 * UNIT);
        Check.due("they are that", x.best(), false);
        x = Check.with("float f 2 0 1 0;like f f 3;town t ask 0;");
        Check.due("two together", x.lost(0), 6 * UNIT);
        Check.due("alone it holds, too", x.lost(2), 4 * UNIT);
    }

    /** One runs after the other for ever. */
    private static void noneHolds() {
        FloatTowns x = Check.with("float f 1 0 0 0;float g 1 0 0 0;like f g 5;like g f - 5;town t ask - 2;town u ask - 2;");
        Check.due("none holds", x.all(1), 0);
        Check.due("no k", x.held(0, 0, 0), -1);
        Check.due("the best, all the same", x.lost(0), 4 * UNIT);
        Check.due("no greatest", x.lost(1), Check.MIN);
        Check.due("no least", x.lost(2), Check.MIN);
        Check.due("best", x.best(), true);
        Check.due("the first of the best: none in t", x.at(0, 0) + x.at(1, 0), 0);
    }

    private static void bests() {
        FloatTowns x = Check.with("float f 2 0 1 0;like f f 3;town t bound ask 0;town u ask 0;");
        x.extra(0, 1);
        Check.due("best", x.best(), true);
        Check.due("both in u", x.at(0, 1), 2);
        Check.due("best already", x.best(), false);
        Check.due("two steps", x.count(7), 2);
        x.extra(0, 0);
        Check.due("of several the first, with the fewest in t", x.best(), false);
        x.extra(1, 1);
        Check.due("now t", x.best(), true);
        Check.due("both in t", x.at(0, 0), 2);
        x.undo();
        Check.due("a step back", x.at(0, 1), 2);
        Check.due("nobody is best", new FloatTowns().best(), false);
    }

    /** What is asked and who is bound counts as it is now. */
    private static void terms() {
        FloatTowns x = Check.with("float f 1 0 5 0;town t ask 0;");
        Check.due("one holds", x.all(1), 1);
        Check.due("alone", x.held(0, 0, 1), 1);
        x.bind(0, true);
        Check.due("bound, two hold", x.all(1), 2);
        Check.due("in t", x.held(1, 0, 0), 1);
        x.extra(0, -9);
        Check.due("one holds: none stays alone", x.all(1), 1);
        Check.due("in t it is", x.held(0, 0, 0), 1);
        Check.due("worth 9", x.lost(0), 9 * UNIT);
        x.undo();
        Check.due("two hold again", x.all(1), 2);
        x.undo();
        Check.due("one holds again", x.all(1), 1);
        x.go(0, 1, 0);
        Check.due("the parting counts not", x.all(1), 1);
        x.extra(0, -99);
        Check.due("99 are the best", x.lost(0), 99 * UNIT);
        x.extra(0, -7);
        Check.due("7 are the best", x.lost(0), 7 * UNIT);
        Check.due("of those that hold now", x.lost(1), 0);
        Check.due("the least of those that hold now", x.lost(2), 0);
        Check.tell(x, "float f 1 0 5 0;town t ask - 6;");
        Check.due("of the new text", x.held(0, 0, 0), 1);
        Check.due("its best", x.lost(0), 6 * UNIT);
    }
}
