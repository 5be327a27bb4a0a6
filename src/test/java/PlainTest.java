/**
 * The document's plain sentences, those that name no edge, from the first line to the last, by one text: all answers
 * are worked out by hand (values without UNITS):
 *
 * <pre>
 *   (gulls, terns)   (1,0)      (2,0)      (0,1)     (1,1)              (2,1)
 *   cove             gull -1    gull 4     tern 0    gull 1, tern -2    gull 8, tern -7
 *   reef             gull  1    gull 4     tern 4    gull 3, tern  3    gull 6, tern  2
 *   ALONE            gull  4, tern 2
 * </pre>
 */
public final class PlainTest {
    private static final long UNIT = 27720;
    private static final int GULL = 0;
    private static final int TERN = 1;
    private static final int COVE = 0;
    private static final int REEF = 1;
    private static final int ALONE = 2;
    private static final int BOTH_GULLS = 2;
    private static final int ONE_TERN = 7;
    private static final String TEXT = "good net 12;good oil 7;float gull 2 3 4 1 wants net 9 wants oil 2;"
        + "float tern 1 6 2 0 wants oil 8;like gull tern 2;like tern gull - 1;like gull gull 3;"
        + "town cove gives net gives oil votes ask cost / members + many;town reef gives oil bound ask pays - 2;"
        + "ground cove 3 7 7 3;storm 5;";

    public static void main(String[] args) {
        told();
        given();
        worths();
        gains();
        goings();
        parties();
        all();
        asks();
        splits();
        grounds();
        months();
        Check.end("PlainTest");
    }

    /** The text with so many gulls in cove and reef, and the tern in a place. */
    private static FloatTowns parting(int inCove, int inReef, int tern) {
        FloatTowns x = Check.with(TEXT);
        for (int i = 0; i < inCove; i++) {
            x.go(GULL, ALONE, COVE);
        }
        for (int i = 0; i < inReef; i++) {
            x.go(GULL, ALONE, REEF);
        }
        x.go(TERN, ALONE, tern);
        return x;
    }

    private static void told() {
        Check.sentence("how many LINES");
        FloatTowns x = new FloatTowns();
        Check.due("text()", Check.tell(x, TEXT), 11);
        Check.sentence("The number of a GOOD (what 0), SORT (1), TOWN (2)");
        Check.due("oil", x.named(0, Check.letters("oil")), 1);
        Check.due("tern", x.named(1, Check.letters("tern")), TERN);
        Check.due("cove", x.named(2, Check.letters("cove")), COVE);
        Check.due("no sort is oil", x.named(1, Check.letters("oil")), -1);
        Check.sentence("Of a SORT, what 0: how many, 1: PAY, 2: OWN, 3: MOVING.");
        int[] gull = {2, 3, 4, 1};
        int[] tern = {1, 6, 2, 0};
        for (int what = 0; what < 4; what++) {
            Check.due("of a gull, what " + what, x.look(GULL, what), gull[what]);
            Check.due("of a tern, what " + what, x.look(TERN, what), tern[what]);
        }
        int[] counts = {2, 2, 2, 3, 8, 5, 0, 0};
        for (int what = 0; what < counts.length; what++) {
            Check.due("count(" + what + ")", x.count(what), counts[what]);
        }
    }

    private static void given() {
        Check.sentence("GIVEN are all that the TOWN gives");
        Check.due("the oil of reef", parting(0, 0, REEF).town(REEF, 1), 2);
        Check.due("by a vote in cove: nothing to one gull", parting(1, 0, ALONE).town(COVE, 1), 0);
        Check.due("the net to both gulls", parting(2, 0, ALONE).town(COVE, 1), 1);
        Check.due("the oil to the tern", parting(0, 0, COVE).town(COVE, 1), 2);
        Check.due("nothing to one of each", parting(1, 0, COVE).town(COVE, 1), 0);
        Check.due("the net to all three", parting(2, 0, COVE).town(COVE, 1), 1);
    }

    private static void worths() {
        Check.sentence("WORTH to it: the sum of what it wants of what is GIVEN, and of what it likes the others there, "
            + "in UNITS, less ASKED; ALONE: OWN.");
        worth(1, 0, ALONE, GULL, COVE, -1);
        worth(2, 0, ALONE, GULL, COVE, 4);
        worth(0, 0, COVE, TERN, COVE, 0);
        worth(1, 0, COVE, GULL, COVE, 1);
        worth(1, 0, COVE, TERN, COVE, -2);
        worth(2, 0, COVE, GULL, COVE, 8);
        worth(2, 0, COVE, TERN, COVE, -7);
        worth(0, 1, ALONE, GULL, REEF, 1);
        worth(0, 2, ALONE, GULL, REEF, 4);
        worth(0, 0, REEF, TERN, REEF, 4);
        worth(0, 1, REEF, GULL, REEF, 3);
        worth(0, 1, REEF, TERN, REEF, 3);
        worth(0, 2, REEF, GULL, REEF, 6);
        worth(0, 2, REEF, TERN, REEF, 2);
        worth(0, 0, ALONE, GULL, ALONE, 4);
        worth(0, 0, ALONE, TERN, ALONE, 2);
        // a third gull in cove: both goods for 19, by 4 of them, and 3 for many
        Check.due("one gull more than there are", parting(2, 0, COVE).worth(GULL, COVE, true), 45 * UNIT / 4);
        Check.sentence("TOTAL now.");
        Check.due("three of them in cove", parting(2, 0, COVE).total(), 9 * UNIT);
        Check.due("three in three places", parting(1, 0, REEF).total(), 7 * UNIT);
    }

    private static void worth(int inCove, int inReef, int tern, int sort, int place, long due) {
        FloatTowns x = parting(inCove, inReef, tern);
        String about = " worth of " + place + " to one of sort " + sort;
        Check.due("as it is," + about, x.worth(sort, place, false), due * UNIT);
        x.go(sort, place, (place + 1) % 3);
        Check.due("if one comes," + about, x.worth(sort, place, true), due * UNIT);
    }

    private static void gains() {
        Check.sentence("GAIN of one that goes from PLACE a to b: its WORTH there then, less its WORTH at a now, less "
            + "MOVING.");
        FloatTowns x = parting(2, 0, COVE);
        Check.due("a gull comes to reef", x.gain(GULL, COVE, REEF), (1 - 8 - 1) * UNIT);
        Check.due("a gull is alone then", x.gain(GULL, COVE, ALONE), (4 - 8 - 1) * UNIT);
        Check.due("the tern comes to reef, moving for nothing", x.gain(TERN, COVE, REEF), (4 + 7) * UNIT);
        x = parting(1, 0, REEF);
        Check.due("a gull comes to the other one", x.gain(GULL, ALONE, COVE), (4 - 4 - 1) * UNIT);
        Check.due("a gull comes to the tern", x.gain(GULL, COVE, REEF), (3 + 1 - 1) * UNIT);
        Check.due("the tern may gain, bound or not", x.gain(TERN, REEF, COVE), (-2 - 4) * UNIT);
    }

    private static void goings() {
        Check.sentence("The FIRST that WOULD, what 0: SORT, 1: a, 2: b.");
        FloatTowns x = parting(0, 0, ALONE);
        Check.due("the tern", x.first(0), TERN);
        Check.due("from where it is alone", x.first(1), ALONE);
        Check.due("to reef", x.first(2), REEF);
        Check.sentence("GOINGS: the FIRST that WOULD goes, again and again:");
        Check.due("it stands", x.ring(0), 1);
        Check.due("behind one", x.ring(1), 1);
        Check.due("one goes", x.goings(300), 1);
        Check.due("to reef", x.at(TERN, REEF), 1);
        x = parting(1, 1, COVE);
        // the gull comes to reef, then the tern too: reef before ALONE
        Check.due("two go", x.goings(300), 2);
        Check.due("the gulls are together", x.at(GULL, REEF), 2);
        Check.due("the tern with them", x.at(TERN, REEF), 1);
        Check.sentence("A PARTING HOLDS, if none WOULD.");
        Check.due("nobody would", x.first(0), -1);
        for (int what = 0; what < 3; what++) {
            Check.due("nobody would with the gulls in cove", parting(2, 0, REEF).first(what), -1);
        }
    }

    private static void parties() {
        Check.sentence("A PARTY from a to b (so many of each SORT, one at least, each at a) WOULD");
        FloatTowns x = parting(0, 0, REEF);
        Check.due("one gull to reef", x.would(1, ALONE, REEF), 0);
        Check.due("both gulls to reef", x.would(BOTH_GULLS, ALONE, REEF), 1);
        Check.due("both gulls to cove", x.would(BOTH_GULLS, ALONE, COVE), 0);
        Check.due("from a bound town", x.would(ONE_TERN, REEF, ALONE), 0);
        Check.due("no party of one", x.party(1, 0), -1);
        Check.due("both gulls are the first one", x.party(2, 0), BOTH_GULLS);
        Check.due("from where they are alone", x.party(2, 1), ALONE);
        Check.due("to reef", x.party(2, 2), REEF);
        Check.due("the tern is the first of the least size", parting(0, 0, ALONE).party(12, 0), ONE_TERN);
    }

    /** In the order of all: gulls in cove, in reef, the tern in cove, in reef. */
    private static void all() {
        Check.sentence("Those that HOLD are numbered in this order.");
        int[][] holding = {{0, 0, 0, 1}, {0, 2, 0, 0}, {0, 2, 0, 1}, {2, 0, 0, 1}};
        FloatTowns x = parting(1, 1, ALONE);
        Check.due("six ways for the gulls, three for the tern", x.all(0), 18);
        Check.due("those that hold", x.all(1), holding.length);
        for (int k = 0; k < holding.length; k++) {
            Check.due(k + ": gulls in cove", x.held(k, GULL, COVE), holding[k][0]);
            Check.due(k + ": gulls in reef", x.held(k, GULL, REEF), holding[k][1]);
            Check.due(k + ": the tern in cove", x.held(k, TERN, COVE), holding[k][2]);
            Check.due(k + ": the tern in reef", x.held(k, TERN, REEF), holding[k][3]);
            Check.due(k + ": gulls alone", x.held(k, GULL, ALONE), 2 - holding[k][0] - holding[k][1]);
        }
        Check.sentence("What 0: BEST's TOTAL, 1: LOST of the greatest, 2: of the least.");
        Check.due("all in reef: 6, 6 and 2", x.lost(0), 14 * UNIT);
        Check.due("it holds", x.lost(1), 0);
        Check.due("the gulls in reef, the tern alone: 10", x.lost(2), 4 * UNIT);
        Check.due("it is not so", x.best(), true);
        Check.due("all gulls in reef", x.at(GULL, REEF), 2);
        Check.due("the tern in reef", x.at(TERN, REEF), 1);
        x = parting(0, 0, COVE);
        x.bind(REEF, false);
        // from the gulls in reef the tern would not go, and they would not: 4 and 6 are above what they have elsewhere
        Check.due("free, the same hold", x.all(1), holding.length);
        x.extra(REEF, 2);
        // asked 2 more nobody stays but the tern: gulls alone or in cove, the tern in reef has 2 there and elsewhere
        Check.due("asked more, two of them hold with the tern in reef, two with the tern alone", x.all(1), 4);
        Check.due("the gulls in cove", x.held(3, GULL, COVE), 2);
    }

    private static void asks() {
        Check.sentence("EDGE of a TOWN and SORT: the least EXTRA more");
        FloatTowns x = parting(0, 0, REEF);
        Check.due("bound", x.edge(REEF, TERN), 1000);
        x.bind(REEF, false);
        Check.due("4 there, 2 alone", x.edge(REEF, TERN), 3);
        Check.due("nobody stays for 3 more", x.empties(REEF), 3);
        Check.due("cove is empty now and then", x.empties(COVE), 0);
        Check.sentence("MET: what is ASKED of all in a TOWN is COST at least.");
        Check.due("4 for the oil of 7", x.met(REEF), 0);
        x.extra(REEF, 2);
        Check.due("6 for the oil of 7", x.met(REEF), 0);
        x.extra(REEF, 3);
        Check.due("7 for the oil of 7", x.met(REEF), 1);
        Check.due("16 for the net of 12", parting(2, 0, ALONE).met(COVE), 1);
        Check.sentence("REFORM of a TOWN by A, B (0 .. 30): instead of its RULE's E x and y times what a SORT PAYS is "
            + "asked");
        x = parting(0, 0, REEF);
        Check.due("x, if twice the 6 may be asked", x.reform(REEF, 30, 30, 0), 0);
        Check.due("y, if twice the 6 may be asked", x.reform(REEF, 30, 30, 1), 2);
        Check.due("x, if the 6 may be asked once", x.reform(REEF, 30, 1, 0), 1);
        Check.due("y, if the 6 may be asked once", x.reform(REEF, 30, 1, 1), 1);
        Check.due("x, if only x may be asked", x.reform(REEF, 30, 0, 0), 7);
        Check.due("none, if less than 7 may be asked", x.reform(REEF, 6, 0, 0), -2);
        x.extra(REEF, 1);
        Check.due("an extra of 1 stays", x.reform(REEF, 30, 30, 1), 1);
    }

    /**
     * Nobody goes: 9. The tern: 8 and 4. A gull: -1, and 1 less 1. One of each: -1, and 6 less 1. Both gulls: 0, and
     * 8 less 2. All three: 14 less 2.
     */
    private static void splits() {
        Check.sentence("SPLIT of a TOWN and another one in which nobody is:");
        FloatTowns x = parting(2, 0, COVE);
        Check.due("the tern ahead of all three", x.split(COVE, REEF, 0), ONE_TERN);
        Check.due("12 less 9", x.split(COVE, REEF, 1), 3 * UNIT);
        x.extra(REEF, -1);
        // all three have 15 in reef less 2 then, the tern 5
        Check.due("all three for 1 less asked in reef", x.split(COVE, REEF, 0), ONE_TERN + BOTH_GULLS);
        Check.due("15 less 9", x.split(COVE, REEF, 1), 6 * UNIT);
    }

    private static void grounds() {
        Check.sentence("OUT of a place (x, y) of a ground with a float:");
        FloatTowns x = Check.with(TEXT);
        Check.due("in the middle", x.out(COVE, 1, 1), 1);
        Check.due("at the edge", x.out(COVE, 2, 1), 0);
        Check.due("in the corner", x.out(COVE, 0, 2), 0);
        Check.due("a free place", x.out(COVE, 2, 2), -2);
        Check.due("a town without ground", x.out(REEF, 0, 0), -1);
    }

    /** By seed 1 the numbers by 5 leave 3, 3, 3, 0: the fourth month is the storm's. */
    private static void months() {
        Check.sentence("MONTHS by a seed:");
        FloatTowns x = Check.with(TEXT);
        Check.due("three months", x.months(1, 3), 3);
        Check.due("the tern went", x.at(TERN, REEF), 1);
        Check.due("no storm", x.tied(), 0);
        Check.due("a step back", x.undo(), 0);
        Check.due("the tern is alone", x.at(TERN, ALONE), 1);
        Check.due("four months", x.months(1, 4), 4);
        Check.due("a storm", x.tied(), 12);
        Check.sentence("ODDS of an empty TOWN: of so many draws");
        x.undo();
        Check.due("reef has the tern in all draws", x.odds(REEF, 1, 3, 2), 0);
        Check.due("cove is empty in all draws", x.odds(COVE, 1, 3, 2), 3);
        Check.due("nothing is changed", x.count(6), 0);
    }
}
