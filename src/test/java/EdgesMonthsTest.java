import java.math.BigInteger;
import java.util.ArrayList;
import java.util.List;

/**
 * The document's section 4 and promises 33 to 38: each sentence that names an edge, and behind it what it asks on
 * both sides of the edge.
 */
public final class EdgesMonthsTest {
    private static final int MOST = Integer.MAX_VALUE;
    /** Six come to t, one after another. */
    private static final String COMING = "good a 0;float f 6 0 1 0 wants a 99;town t gives a ask 0;town u ask 50;";

    public static void main(String[] args) {
        numbers();
        numberOnlyInStorm();
        tiedMonths();
        stormMonths();
        oddsOfEmpty();
        oddsGoOn();
        monthsCalls();
        tiedCalls();
        oddsCalls();
        undone();
        latestFirst();
        undoCalls();
        imageKeeps();
        keepCalls();
        backCalls();
        Check.end("EdgesMonthsTest");
    }

    /** The numbers by a seed, worked out without a bound and then cut. */
    private static int[] series(int seed, int many) {
        BigInteger last = BigInteger.valueOf(seed);
        int[] numbers = new int[many];
        for (int i = 0; i < many; i++) {
            last = last.multiply(BigInteger.valueOf(1103515245)).add(BigInteger.valueOf(12345))
                .mod(BigInteger.TWO.pow(31));
            numbers[i] = last.divide(BigInteger.valueOf(65536)).intValueExact();
        }
        return numbers;
    }

    /** For how many months all are tied behind numbers of a series, by a storm. */
    private static int tiedBehind(int[] numbers, int from, int many, int storm, int tied) {
        int left = tied;
        for (int i = from; i < from + many; i++) {
            left = numbers[i] % storm == 0 ? 12 : Math.max(0, left - 1);
        }
        return left;
    }

    // ---- months ----

    private static void numbers() {
        Check.sentence("numbers are the last one (at first the seed, 0 .. 2147483647) times 1103515245 and 12345, "
            + "without what is above 31 bits, by 65536.");
        Check.due("by seed 0 the first is 12345 by 65536, 0", series(0, 1)[0], 0);
        Check.due("by the greatest seed it is 15929, 17 by 937", series(MOST, 1)[0], 17 * 937);
        for (int seed : new int[] {0, 1, 2, 12345, 65535, 65536, 1 << 30, MOST - 1, MOST}) {
            int[] numbers = series(seed, 12);
            for (int storm : new int[] {2, 3, 4, 7, 16, 17, 18, 50, 98, 99}) {
                FloatTowns x = Check.with("storm " + storm + ";");
                for (int many = 1; many <= 12; many++) {
                    Check.due("months", x.months(seed, many), many);
                    Check.due("tied by seed " + seed + ", storm " + storm + ", behind " + many, x.tied(),
                        tiedBehind(numbers, 0, many, storm, 0));
                    x.undo();
                }
            }
        }
        FloatTowns x = Check.with("storm 2;");
        x.months(1, 3);
        int tied = x.tied();
        x.months(1, 3);
        Check.due("each call begins by its own seed", x.tied(), tiedBehind(series(1, 3), 0, 3, 2, tied));
    }

    private static void numberOnlyInStorm() {
        Check.sentence("Then, with a storm, a number: if that modulo one of so many is 0, all are TIED");
        FloatTowns x = Check.with(COMING);
        x.months(0, 240);
        Check.due("never without a storm", x.tied(), 0);
        Check.due("all came", x.at(0, 0), 6);
        x = Check.with(COMING + "storm 99;");
        x.months(0, 1);
        Check.due("0 modulo 99 is 0", x.tied(), 12);
        Check.due("the first one went ahead of it", x.at(0, 0), 1);
        x.undo();
        x.months(1, 1);
        Check.due("16838 modulo 99 is 8", x.tied(), 0);
        x = Check.with(COMING + "storm 2;");
        x.months(1, 1);
        Check.due("16838 is even", x.tied(), 12);
        x.undo();
        x.months(MOST, 1);
        Check.due("15929 is not", x.tied(), 0);
    }

    private static void tiedMonths() {
        Check.sentence("Each MONTH: if all are TIED, that lasts a MONTH less; else the FIRST that WOULD goes.");
        FloatTowns x = Check.with(COMING + "storm 99;");
        x.months(0, 1);
        for (int left = 11; left >= 0; left--) {
            x.months(1, 1);
            Check.due("a month less", x.tied(), left);
            Check.due("none goes, in the last one neither", x.at(0, 0), 1);
        }
        x.months(1, 1);
        Check.due("not below 0", x.tied(), 0);
        Check.due("the thirteenth: one goes", x.at(0, 0), 2);
        x.months(1, 1);
        Check.due("one a month", x.at(0, 0), 3);
        x.bind(0, true);
        x.go(0, 2, 0);
        x.go(0, 2, 0);
        x.go(0, 2, 0);
        Check.due("where none would, a month passes all the same", x.months(1, 1), 16);
        Check.due("all are there", x.at(0, 0), 6);
        x.bind(0, false);
        x.extra(0, 999);
        x.months(1, 2);
        Check.due("the first that would leaves, one a month", x.at(0, 0), 4);
    }

    private static void stormMonths() {
        Check.sentence("all are TIED for 12 MONTHS from the next on (also if they are TIED still).");
        FloatTowns x = Check.with(COMING + "storm 99;");
        x.months(0, 1);
        Check.due("12 from the next on", x.tied(), 12);
        x.months(0, 1);
        Check.due("12 again, as they are tied still", x.tied(), 12);
        x.months(1, 5);
        Check.due("5 less", x.tied(), 7);
        x.months(0, 1);
        Check.due("12 again, not 19", x.tied(), 12);
        x.months(1, 11);
        Check.due("one is left", x.tied(), 1);
        x.months(0, 1);
        Check.due("in the last one 12 again", x.tied(), 12);
        Check.due("none went in all that time", x.at(0, 0), 1);
        Check.due("go asks for no ties", x.go(0, 2, 0), true);
        Check.due("nor do goings", x.goings(300), 4);
        Check.due("tied all the same", x.tied(), 12);
    }

    // ---- odds ----

    private static void oddsOfEmpty() {
        Check.sentence("in how many nobody is there at the end.");
        FloatTowns x = Check.with("float f 1 0 0 0;float g 1 0 0 0;like f g 5;like g f - 5;town t ask - 2;town u ask - 2;");
        // f to t, g to u, f to u, g to t, f to t, g to u: t is empty behind three months, not behind two or four
        int[] emptyT = {0, 0, 1, 0, 0, 0, 1, 0};
        for (int many = 1; many <= 8; many++) {
            Check.due("t behind " + many, x.odds(0, 0, 9, many), 9 * emptyT[many - 1]);
        }
        Check.due("nobody has gone", x.at(0, 2), 1);

        Check.sentence("(of so many MONTHS each, from now on, each by numbers that go on)");
        x = Check.with(COMING + "storm 99;");
        x.months(0, 1);
        x.go(0, 0, 2);
        List<Long> ahead = Check.answers(x);
        Check.due("tied for all 12 from now on", x.odds(0, 1, 1, 12), 1);
        Check.due("and free in the 13th", x.odds(0, 1, 1, 13), 0);
        Check.due("all is as it was", ahead.equals(Check.answers(x)), true);
        x.extra(0, 99);
        Check.due("by what is asked now", x.odds(0, 1, 1, 60), 1);
        x.go(0, 2, 0);
        x.bind(0, true);
        Check.due("by who is bound now", x.odds(0, 1, 20, 60), 0);
    }

    /** Two leave t in two months if the draw's first number is odd; what it is depends on the draws ahead. */
    private static void oddsGoOn() {
        Check.sentence("each by numbers that go on");
        FloatTowns x = Check.with("good a 0;float f 2 0 1 0 wants a 9;town t ask 0;town u gives a ask 0;storm 2;");
        x.go(0, 2, 0);
        x.go(0, 2, 0);
        for (int seed : new int[] {0, 1, 77, MOST}) {
            int[] numbers = series(seed, 40);
            int empty = 0;
            for (int draws = 1; draws <= 20; draws++) {
                empty += numbers[2 * draws - 2] % 2;
                Check.due("seed " + seed + ", draws " + draws, x.odds(0, seed, draws, 2), empty);
            }
            Check.due("not the same in all", empty > 0 && empty < 20, true);
            Check.due("the same by the same seed", x.odds(0, seed, 20, 2), empty);
        }
    }

    // ---- the calls ----

    private static void monthsCalls() {
        Check.sentence("MONTHS (0 .. 240): how many were in all; NONE: no such ones.");
        FloatTowns x = Check.with(COMING + "storm 2;");
        List<Long> ahead = Check.answers(x);
        for (int many : new int[] {-1, 241, -240, 480, MOST, Integer.MIN_VALUE}) {
            Check.due("months(0," + many + ")", x.months(0, many), -1);
        }
        for (int seed : new int[] {-1, -2147483647, Integer.MIN_VALUE}) {
            Check.due("months(" + seed + ",1)", x.months(seed, 1), -1);
            Check.due("months(" + seed + ",0)", x.months(seed, 0), -1);
        }
        Check.due("refused, they change nothing", ahead.equals(Check.answers(x)), true);
        Check.due("0", x.months(0, 0), 0);
        Check.due("0 are no step", x.count(7), 0);
        Check.due("240 by the greatest seed", x.months(MOST, 240), 240);
        Check.due("one step", x.count(7), 1);
        Check.due("how many were in all", x.months(0, 1), 241);
        Check.due("none more", x.months(0, 0), 241);
        Check.due("count(6)", x.count(6), 241);
        Check.due("240 more", x.months(0, 240), 481);
        Check.due("of no text", new FloatTowns().months(0, 240), 240);
    }

    private static void tiedCalls() {
        Check.sentence("For how many MONTHS all are TIED.");
        FloatTowns x = Check.with("storm 99;");
        Check.due("at first", x.tied(), 0);
        x.months(0, 1);
        Check.due("the most", x.tied(), 12);
        x.months(1, 12);
        Check.due("none", x.tied(), 0);
        x.months(1, 1);
        Check.due("none", x.tied(), 0);
        Check.due("of no text", new FloatTowns().tied(), 0);
    }

    private static void oddsCalls() {
        Check.sentence("ODDS, 1 .. 20 draws of 1 .. 60 MONTHS: in how many draws; NONE: no such ones.");
        FloatTowns x = Check.with(COMING + "storm 2;");
        Check.due("the least", x.odds(1, 0, 1, 1), 1);
        Check.due("the most", x.odds(1, MOST, 20, 60), 20);
        for (int draws : new int[] {0, 21, -1, -20, MOST, Integer.MIN_VALUE}) {
            Check.due("draws " + draws, x.odds(1, 0, draws, 1), -1);
        }
        for (int many : new int[] {0, 61, -1, -60, MOST, Integer.MIN_VALUE}) {
            Check.due("months " + many, x.odds(1, 0, 1, many), -1);
        }
        for (int seed : new int[] {-1, Integer.MIN_VALUE}) {
            Check.due("seed " + seed, x.odds(1, seed, 1, 1), -1);
        }
        Check.due("alone is no town", x.odds(2, 0, 1, 1), -1);
        for (int far : Check.FAR) {
            Check.due("no such town", x.odds(far, 0, 1, 1), -1);
        }
        Check.due("nothing to undo", x.count(7), 0);
        Check.due("no months were", x.count(6), 0);
        Check.due("nothing is tied", x.tied(), 0);
        Check.due("of no text", new FloatTowns().odds(0, 0, 1, 1), -1);
    }

    // ---- steps back ----

    private static void undone() {
        Check.sentence("by go(), goings(), extra(), bind(), months(), best() can be undone "
            + "(where something went; MONTHS, 1 or more)");
        FloatTowns x = Check.with(COMING + "storm 99;");
        Check.due("goings of none", x.goings(0), 0);
        Check.due("no months", x.months(0, 0), 0);
        x.go(0, 0, 1);
        x.extra(0, 0);
        x.bind(0, false);
        Check.due("nothing of it can be undone", x.count(7), 0);
        List<List<Long>> ahead = new ArrayList<>();
        for (int kind = 0; kind < 6; kind++) {
            ahead.add(Check.answers(x));
            Check.due("kind " + kind + " is done", done(x, kind), true);
            Check.due("kind " + kind + " can be undone", x.count(7), kind + 1);
        }
        for (int kind = 5; kind >= 0; kind--) {
            Check.due("kind " + kind + " is undone", x.undo(), kind);
            Check.due("all as ahead of it", ahead.get(kind).equals(Check.answers(x)), true);
        }
        FloatTowns still = Check.with("float f 1 0 9 0;town t ask 0;");
        Check.due("goings that stand", still.goings(300), 0);
        Check.due("are no step", still.count(7), 0);
        Check.due("best already", still.best(), false);
        Check.due("is no step", still.count(7), 0);
        Check.due("one month in which none goes", still.months(0, 1), 1);
        Check.due("is a step", still.count(7), 1);
    }

    private static boolean done(FloatTowns x, int kind) {
        switch (kind) {
            case 0:
                return x.go(0, 2, 1);
            case 1:
                return x.goings(2) == 2;
            case 2:
                return x.extra(0, 60);
            case 3:
                return x.bind(1, true);
            case 4:
                return x.months(0, 1) == 1;
            default:
                return x.best();
        }
    }

    private static void latestFirst() {
        Check.sentence("the latest first (30 at most).");
        FloatTowns x = Check.with(COMING);
        for (int extra = 1; extra <= 30; extra++) {
            x.extra(0, extra);
            Check.due("steps", x.count(7), extra);
        }
        Check.due("the 30th is undone", x.undo(), 29);
        Check.due("the latest one", x.town(0, 4), 29);
        x.extra(0, 30);
        x.extra(0, 31);
        Check.due("30 at most", x.count(7), 30);
        x.extra(0, 32);
        Check.due("30 at most", x.count(7), 30);
        for (int left = 29; left >= 0; left--) {
            Check.due("undo", x.undo(), left);
            Check.due("as it was ahead", x.town(0, 4), left + 2);
        }
        Check.due("the first two are not to be undone any more", x.undo(), -1);
        Check.due("they stay", x.town(0, 4), 2);
        for (int extra = 3; extra <= 100; extra++) {
            x.extra(0, extra);
        }
        Check.due("30 of a hundred", x.count(7), 30);
        for (int left = 29; left >= 0; left--) {
            Check.due("undo", x.undo(), left);
        }
        Check.due("the seventieth stays", x.town(0, 4), 70);
    }

    private static void undoCalls() {
        Check.sentence("The latest that can be undone is: how many are left; NONE: none. "
            + "(What is TIED, and how many MONTHS were, as well.)");
        FloatTowns x = Check.with(COMING + "storm 99;");
        Check.due("none", x.undo(), -1);
        x.months(0, 1);
        x.months(1, 2);
        x.months(0, 1);
        Check.due("tied", x.tied(), 12);
        Check.due("two are left", x.undo(), 2);
        Check.due("what was tied", x.tied(), 10);
        Check.due("how many months were", x.count(6), 3);
        Check.due("one is left", x.undo(), 1);
        Check.due("what was tied", x.tied(), 12);
        Check.due("how many months were", x.count(6), 1);
        Check.due("none is left", x.undo(), 0);
        Check.due("not tied", x.tied(), 0);
        Check.due("no months", x.count(6), 0);
        Check.due("none came", x.at(0, 0), 0);
        List<Long> ahead = Check.answers(x);
        Check.due("none", x.undo(), -1);
        Check.due("and it changes nothing", ahead.equals(Check.answers(x)), true);
        Check.due("of no text", new FloatTowns().undo(), -1);
    }

    private static void imageKeeps() {
        Check.sentence("An IMAGE keeps PARTING, EXTRA, TIES, what is TIED, how many MONTHS were.");
        FloatTowns x = Check.with(COMING + "storm 99;");
        x.go(0, 2, 1);
        x.extra(0, -7);
        x.extra(1, 7);
        x.bind(1, true);
        x.months(0, 1);
        x.keep();
        x.go(0, 1, 2);
        x.extra(0, 3);
        x.extra(1, 0);
        x.bind(1, false);
        x.bind(0, true);
        x.months(1, 5);
        Check.due("back", x.back(), 1);
        Check.due("the parting: in t", x.at(0, 0), 1);
        Check.due("in u", x.at(0, 1), 1);
        Check.due("alone", x.at(0, 2), 4);
        Check.due("extra of t", x.town(0, 4), -7);
        Check.due("extra of u", x.town(1, 4), 7);
        Check.due("t is loose", x.town(0, 3), 0);
        Check.due("u is bound", x.town(1, 3), 1);
        Check.due("tied", x.tied(), 12);
        Check.due("months", x.count(6), 1);
    }

    private static void keepCalls() {
        Check.sentence("An IMAGE is kept (in place of one ahead): how many MONTHS were.");
        FloatTowns x = Check.with(COMING);
        Check.due("none were", x.keep(), 0);
        x.months(0, 3);
        List<Long> ahead = Check.answers(x);
        Check.due("three were", x.keep(), 3);
        Check.due("it changes nothing", ahead.equals(Check.answers(x)), true);
        x.months(0, 1);
        Check.due("the later image", x.back(), 3);
        Check.due("and not the first one", x.at(0, 0), 3);
        x.extra(0, 1);
        Check.due("what can be undone stays by keep", x.keep() + x.count(7), 4);
        x.undo();
        Check.due("undo changes no image", x.back(), 3);
        Check.due("extra as it was kept", x.town(0, 4), 1);
        Check.due("of no text", new FloatTowns().keep(), 0);
    }

    private static void backCalls() {
        Check.sentence("All is as in the IMAGE (nothing to undo then): how many MONTHS were; NONE: there is none.");
        FloatTowns x = Check.with(COMING);
        x.extra(0, 1);
        Check.due("none", x.back(), -1);
        Check.due("what can be undone stays", x.count(7), 1);
        x.months(0, 2);
        x.keep();
        x.months(0, 2);
        Check.due("four were", x.count(6), 4);
        Check.due("two were", x.back(), 2);
        Check.due("nothing to undo", x.count(7), 0);
        Check.due("undo", x.undo(), -1);
        Check.due("as in the image", x.at(0, 0), 2);
        x.go(0, 0, 2);
        Check.due("the image is there still", x.back(), 2);
        Check.due("as in the image", x.at(0, 0), 2);
        x.extra(0, 5);
        Check.due("a step behind it can be undone", x.undo(), 0);
        Check.due("to the image", x.town(0, 4), 1);
        FloatTowns empty = new FloatTowns();
        Check.due("of no text", empty.back(), -1);
        empty.keep();
        empty.months(0, 9);
        Check.due("its image", empty.back(), 0);
        Check.due("no months", empty.count(6), 0);
    }
}
