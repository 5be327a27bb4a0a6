/** Promises 33 (months), 34 (tied) and 35 (odds). */
public final class MonthsTest {
    public static void main(String[] args) {
        wrongOnes();
        withoutStorm();
        storms();
        numbers();
        ties();
        odds();
        oddsGoOn();
        Check.end("MonthsTest");
    }

    private static void wrongOnes() {
        FloatTowns x = Check.with("float f 1 0 5 0;town t ask 0;storm 2;");
        Check.due("seed below 0", x.months(-1, 1), -1);
        Check.due("many below 0", x.months(0, -1), -1);
        Check.due("many above 240", x.months(0, 241), -1);
        Check.due("none", x.months(0, 0), 0);
        Check.due("nothing to undo", x.count(7), 0);
        Check.due("the most", x.months(Integer.MAX_VALUE, 240), 240);
        Check.due("one step", x.count(7), 1);
        Check.due("none behind them", x.months(0, 0), 240);
        Check.due("how many were in all", x.months(7, 60), 300);
        Check.due("count(6)", x.count(6), 300);
        Check.due("no such town", x.odds(1, 0, 1, 1), -1);
        Check.due("no such town below", x.odds(-1, 0, 1, 1), -1);
        Check.due("odds by a seed below 0", x.odds(0, -1, 1, 1), -1);
        Check.due("no draws", x.odds(0, 0, 0, 1), -1);
        Check.due("21 draws", x.odds(0, 0, 21, 1), -1);
        Check.due("no months", x.odds(0, 0, 1, 0), -1);
        Check.due("61 months", x.odds(0, 0, 1, 61), -1);
        Check.due("the most of both", x.odds(0, 0, 20, 60) >= 0, true);
        Check.due("months of no text", new FloatTowns().months(3, 4), 4);
    }

    private static void withoutStorm() {
        FloatTowns x = Check.with("good a 0;float f 3 0 1 0 wants a 9;town t gives a ask many * 2;");
        Check.due("one month", x.months(0, 1), 1);
        Check.due("one went", x.at(0, 0), 1);
        Check.due("never tied", x.tied(), 0);
        Check.due("nine months", x.months(5, 9), 10);
        Check.due("all went", x.at(0, 0), 3);
        Check.due("a step back", x.undo(), 1);
        Check.due("one month was", x.count(6), 1);
        Check.due("one had gone", x.at(0, 0), 1);
    }

    /** By seed 0 the first number is 12345 by 65536, which is 0: the storm comes in the first month. */
    private static void storms() {
        FloatTowns x = Check.with("good a 0;float f 3 0 1 0 wants a 9;town t gives a ask many * 2;storm 99;");
        x.months(0, 1);
        Check.due("one went ahead of the storm", x.at(0, 0), 1);
        Check.due("tied for 12", x.tied(), 12);
        x.months(1, 1);
        Check.due("none goes", x.at(0, 0), 1);
        Check.due("a month less", x.tied(), 11);
        x.months(0, 1);
        Check.due("tied for 12 again", x.tied(), 12);
        Check.due("three months", x.count(6), 3);
        x.undo();
        Check.due("what was tied", x.tied(), 11);
        x.go(0, 1, 0);
        Check.due("go asks for no ties", x.at(0, 0), 2);
        Check.due("first neither", x.first(0), 0);
        Check.due("goings neither", x.goings(5), 1);
    }

    /** Seed 1: 16838, 5758, 10113, 17515, 31051, 5627, 23010, 7419, .. : the numbers of a well known series. */
    private static void numbers() {
        int[] series = {16838, 5758, 10113, 17515, 31051, 5627, 23010, 7419, 16212, 4086, 2749, 12767, 9084, 12060};
        for (int storm = 2; storm <= 99; storm++) {
            FloatTowns x = Check.with("storm " + storm + ";");
            for (int many = 1; many <= series.length; many++) {
                int tied = 0;
                for (int i = 0; i < many; i++) {
                    tied = series[i] % storm == 0 ? 12 : Math.max(0, tied - 1);
                }
                x.months(1, many);
                Check.due("tied by storm " + storm + " behind " + many, x.tied(), tied);
                x.undo();
            }
        }
    }

    /** Tied for 12 months from the next on: the one that would go goes in the thirteenth. */
    private static void ties() {
        FloatTowns x = Check.with("good a 0;float f 6 0 1 0 wants a 99;town t gives a ask 0;storm 99;");
        x.months(0, 1);
        Check.due("one", x.at(0, 0), 1);
        for (int month = 1; month <= 12; month++) {
            x.months(1, 1);
            Check.due("tied behind " + month, x.tied(), 12 - month);
            Check.due("none went", x.at(0, 0), 1);
        }
        x.months(1, 1);
        Check.due("the next one", x.at(0, 0), 2);
        Check.due("not tied", x.tied(), 0);
    }

    private static void odds() {
        FloatTowns x = Check.with("good a 0;float f 1 0 1 0 wants a 9;town t gives a ask 0;town u ask 0;");
        Check.due("never empty", x.odds(0, 0, 7, 1), 0);
        Check.due("always empty", x.odds(1, 0, 7, 9), 7);
        Check.due("nothing is changed", x.at(0, 2), 1);
        Check.due("no months were", x.count(6), 0);
        Check.due("nothing to undo", x.count(7), 0);
        x.go(0, 2, 1);
        Check.due("left", x.odds(1, 0, 20, 1), 20);
        x.bind(1, true);
        Check.due("bound", x.odds(1, 0, 20, 60), 0);
        Check.due("it would be free then", x.odds(0, 0, 20, 60), 20);
        x = Check.with("good a 0;float f 1 0 1 0 wants a 9;town t gives a ask 0;storm 99;");
        x.months(0, 1);
        x.go(0, 0, 1);
        Check.due("tied from now on", x.odds(0, 1, 1, 12), 1);
        Check.due("free then", x.odds(0, 1, 1, 13), 0);
        Check.due("still tied", x.tied(), 12);
    }

    /** By seed 1 and a storm of 2, 5758 is even and 10113 is not: what a draw meets depends on the one ahead. */
    private static void oddsGoOn() {
        FloatTowns x = Check.with("good a 0;float f 2 0 1 0 wants a 9;town t ask 0;town u gives a ask 0;storm 2;");
        x.go(0, 2, 0);
        x.go(0, 2, 0);
        // both leave in two months if the first number of the draw is odd
        int[] series = {16838, 5758, 10113, 17515, 31051, 5627, 23010, 7419, 16212, 4086, 2749, 12767, 9084, 12060};
        int empty = 0;
        for (int draws = 1; draws <= 7; draws++) {
            empty += series[2 * draws - 2] % 2;
            Check.due("empty in " + draws + " draws", x.odds(0, 1, draws, 2), empty);
        }
        Check.due("the same by the same seed", x.odds(0, 1, 7, 2), empty);
        Check.due("some, not all", empty > 0 && empty < 7, true);
    }
}
