import java.util.List;

/**
 * The document's section 2 from WOULD on, EDGE and EMPTIES, and promises 14 to 19, 27 and 28: each sentence that
 * names an edge, and behind it what it asks on both sides of the edge.
 */
public final class EdgesGoingTest {
    private static final long UNIT = 27720;
    private static final String A_UNIT = "1 / 999 / 27";
    /** One runs after the other: f to t, g to u, f to u, g to t, f to t, .. */
    private static final String CHASE =
        "float f 1 0 0 0;float g 1 0 0 0;like f g 5;like g f - 5;town t ask - 2;town u ask - 2;";
    /** All come to t, one after another, as long as another one gains. */
    private static final String FILLING = "good a 0;float f 6 0 1 0 wants a 13;town t gives a ask many * 2;";

    public static void main(String[] args) {
        goes();
        wouldGo();
        firstOf();
        firsts();
        parties();
        woulds();
        firstParty();
        partyCalls();
        goings();
        rings();
        ringOfNone();
        lostOrRing();
        lostOrStands();
        ringCalls();
        edges();
        edgeCalls();
        empties();
        emptiesCalls();
        Check.end("EdgesGoingTest");
    }

    // ---- one goes ----

    private static void goes() {
        Check.sentence("One goes from PLACE a to b, WOULD it or not: true; false: no such ones, none at a, both the same.");
        FloatTowns x = Check.with("float f 1 0 9 9;town t bound ask 99;town u ask 0;");
        List<Long> ahead = Check.answers(x);
        Check.due("none at a", x.go(0, 0, 1), false);
        Check.due("both the same", x.go(0, 2, 2), false);
        Check.due("both the same, and none", x.go(0, 0, 0), false);
        Check.due("the sort beyond", x.go(1, 2, 0), false);
        Check.due("the place beyond", x.go(0, 3, 0), false);
        Check.due("to the place beyond", x.go(0, 2, 3), false);
        for (int far : Check.FAR) {
            Check.due("no such sort", x.go(far, 2, 0), false);
            Check.due("no such a", x.go(0, far, 0), false);
            Check.due("no such b", x.go(0, 2, far), false);
        }
        Check.due("refused, they change nothing", ahead.equals(Check.answers(x)), true);
        Check.due("it would not", x.would(1, 2, 0), 0);
        Check.due("and goes", x.go(0, 2, 0), true);
        Check.due("it is there", x.at(0, 0), 1);
        Check.due("it is not alone", x.at(0, 2), 0);
        Check.due("no second one goes", x.go(0, 2, 0), false);
        Check.due("out of a bound town", x.go(0, 0, 1), true);
        Check.due("and alone", x.go(0, 1, 2), true);
        Check.due("three can be undone", x.count(7), 3);
    }

    private static void wouldGo() {
        Check.sentence("It WOULD go, if that is above 0, and a isn't BOUND.");
        FloatTowns x = Check.with("float f 1 0 5 4;town t ask - 9;town u ask - 9 - " + A_UNIT + ";town v ask - 14 ;");
        x.extra(2, 5);
        Check.due("9 less 5, 4 are 0", x.would(1, 3, 0), 0);
        Check.due("a unit is enough", x.gain(0, 3, 1), 1);
        Check.due("it would", x.would(1, 3, 1), 1);
        Check.due("by a unit it goes first", x.first(2), 1);
        x.bind(1, true);
        Check.due("into a bound town it would", x.first(2), 1);
        x.go(0, 3, 1);
        x.extra(1, 99);
        Check.due("out of it never", x.first(0), -1);
        Check.due("whatever it gains", x.gain(0, 1, 0) > 0, true);
        Check.due("nor would a party", x.would(1, 1, 0), 0);
        x.bind(1, false);
        Check.due("loose, it would", x.first(2), 0);
        x = Check.with("float f 1 0 5 0;town t ask - 5;town u ask - 5 + " + A_UNIT + ";");
        Check.due("nothing gained", x.first(0), -1);
        x.go(0, 2, 1);
        Check.due("a unit is lost there", x.gain(0, 1, 2), 1);
        Check.due("it would leave it, for t", x.first(2), 0);
    }

    private static void firstOf() {
        Check.sentence("The FIRST that WOULD: of SORTS, then a, then b, by numbers.");
        FloatTowns x = Check.with("float f 2 0 5 0;float g 2 0 5 0;town t ask 0;town u ask 0;town v ask 0;");
        x.go(1, 3, 0);
        due(x, 1, 0, 3);
        x.go(0, 3, 2);
        due(x, 0, 2, 3);
        x.go(0, 3, 1);
        due(x, 0, 1, 3);
        x.extra(0, -9);
        due(x, 0, 1, 0);
        x.extra(2, -99);
        due(x, 0, 1, 0);
        x.go(0, 1, 3);
        due(x, 0, 3, 0);
        x.extra(1, -8);
        due(x, 0, 3, 0);
        x.extra(0, 9);
        due(x, 0, 3, 1);
    }

    private static void due(FloatTowns x, int sort, int a, int b) {
        Check.due("first(0)", x.first(0), sort);
        Check.due("first(1)", x.first(1), a);
        Check.due("first(2)", x.first(2), b);
    }

    private static void firsts() {
        Check.sentence("NONE: the PARTING HOLDS, no such what.");
        FloatTowns x = Check.with("float f 1 0 5 0;town t ask - 9;");
        due(x, 0, 1, 0);
        for (int what : new int[] {3, 4, -1, Integer.MAX_VALUE, Integer.MIN_VALUE}) {
            Check.due("first(" + what + ")", x.first(what), -1);
        }
        x.go(0, 1, 0);
        due(x, -1, -1, -1);
        due(new FloatTowns(), -1, -1, -1);
        due(Check.with("float f 1 0 5 0;"), -1, -1, -1);
        due(Check.with("town t ask 1;"), -1, -1, -1);
    }

    // ---- parties ----

    private static void parties() {
        Check.sentence("A PARTY from a to b (so many of each SORT, one at least, each at a) WOULD, if a is not BOUND, "
            + "and each gains, all of it gone.");
        FloatTowns x = Check.with("float f 2 0 3 0;float g 1 0 0 1;like f f 3;like f g 2;like g f 1;town t ask 0;town u ask 0;");
        Check.due("one f: 0 is not above 3", x.would(1, 2, 0), 0);
        Check.due("two f: 3 is not above 3", x.would(2, 2, 0), 0);
        Check.due("f and g: 2 is not above 3", x.would(8, 2, 0), 0);
        Check.due("two f and g: 5 above 3, 2 above 0 and moving", x.would(9, 2, 0), 1);
        Check.due("g alone: 0", x.would(7, 2, 0), 0);
        x.go(0, 2, 0);
        Check.due("g to one f: 1 is not above moving", x.would(7, 2, 0), 0);
        x.go(0, 2, 0);
        Check.due("g to two f: 2 is", x.would(7, 2, 0), 1);
        x.go(1, 2, 0);
        Check.due("all of them gain nothing by u", x.would(9, 0, 1), 0);
        x.extra(0, 1);
        Check.due("f would, g by its moving not", x.would(9, 0, 1), 0);
        x.extra(0, 2);
        Check.due("each gains", x.would(9, 0, 1), 1);
        x.bind(0, true);
        Check.due("bound, none would", x.would(9, 0, 1), 0);
        Check.due("one is no party of all", x.would(1, 0, 1), 0);
        x.bind(0, false);
        x.bind(1, true);
        Check.due("into a bound town they would", x.would(9, 0, 1), 1);
        x = Check.with("float f 1 0 5 0;town t ask - 5 - " + A_UNIT + ";town u ask - 5;");
        Check.due("by a unit", x.would(1, 2, 0), 1);
        Check.due("by nothing", x.would(1, 2, 1), 0);
    }

    private static void woulds() {
        Check.sentence("Whether a PARTY (so many of SORT s by 7 to the s each) WOULD from a to b (1, 0); "
            + "NONE: it can't be one, no such PLACES, both the same.");
        FloatTowns x = Check.with("float a 6 0 0 0;float b 2 0 0 0;float c 1 0 0 0;float d 1 0 0 0;float e 2 0 0 0;"
            + "town t ask - 1;town u ask 0;");
        Check.due("all of them", x.would(6 + 2 * 7 + 49 + 343 + 2 * 2401, 2, 0), 1);
        Check.due("one of the last sort", x.would(2401, 2, 0), 1);
        Check.due("two of it", x.would(4802, 2, 0), 1);
        Check.due("three of it are not at a", x.would(7203, 2, 0), -1);
        Check.due("six of the first", x.would(6, 2, 0), 1);
        Check.due("two of the second", x.would(14, 2, 0), 1);
        Check.due("three of the second are not at a", x.would(21, 2, 0), -1);
        Check.due("a sixth sort", x.would(16807, 2, 0), -1);
        Check.due("a sixth sort and one", x.would(16808, 2, 0), -1);
        Check.due("the most", x.would(Integer.MAX_VALUE, 2, 0), -1);
        Check.due("nobody", x.would(0, 2, 0), -1);
        Check.due("below nobody", x.would(-1, 2, 0), -1);
        Check.due("below nobody", x.would(-7, 2, 0), -1);
        Check.due("the least", x.would(Integer.MIN_VALUE, 2, 0), -1);
        Check.due("2 to the 31 and one", x.would(Integer.MIN_VALUE + 1, 2, 0), -1);
        Check.due("both the same", x.would(1, 2, 2), -1);
        Check.due("the place beyond", x.would(1, 3, 0), -1);
        Check.due("to the place beyond", x.would(1, 2, 3), -1);
        for (int far : Check.FAR) {
            Check.due("no such a", x.would(1, far, 0), -1);
            Check.due("no such b", x.would(1, 2, far), -1);
        }
        Check.due("none at a", x.would(1, 0, 2), -1);
        x.go(0, 2, 0);
        Check.due("six are not there any more", x.would(6, 2, 0), -1);
        Check.due("five are", x.would(5, 2, 0), 1);
        Check.due("one is in t", x.would(1, 0, 2), 0);
        Check.due("two are not", x.would(2, 0, 2), -1);
        x = Check.with("float f 1 0 0 0;town t ask - 1;");
        Check.due("of a second sort, where there is one", x.would(7, 1, 0), -1);
        Check.due("of both", x.would(8, 1, 0), -1);
    }

    private static void firstParty() {
        Check.sentence("The FIRST PARTY: of the least size, then by how many of SORT 0, 1, .. (the most first), "
            + "then a, then b.");
        String floats = "float f 2 0 1 0;float g 2 0 1 0;float h 2 0 1 0;";
        String towns = "town t ask 0;town u ask 0;";
        FloatTowns x = Check.with(floats + "like f f 1;like g g 2;like h h 2;" + towns);
        party(x, 12, 14, 2, 0);
        x = Check.with(floats + "like f f 2;like g g 2;like f g 2;like g f 2;" + towns);
        party(x, 12, 2, 2, 0);
        x = Check.with(floats + "like g h 2;like h g 2;like f h 2;like h f 2;" + towns);
        party(x, 12, 1 + 49, 2, 0);
        x = Check.with(floats + "like f f 1;like f g 1;like g f 2;like h h 2;" + towns);
        Check.due("two h ahead of three that begin with f", x.party(12, 0), 2 * 49);
        x.extra(0, 1);
        party(x, 12, 2 * 49, 2, 1);
        x.bind(1, true);
        party(x, 12, 2 * 49, 2, 1);
        x = Check.with("float f 4 0 1 0;like f f 2;town t ask 0;town u ask 0;town v ask 0;");
        for (int i = 0; i < 2; i++) {
            x.go(0, 3, 1);
            x.go(0, 3, 2);
        }
        Check.due("one leaves two for two", x.would(1, 1, 2), 1);
        party(x, 12, 1, 1, 2);
        x.bind(1, true);
        party(x, 12, 1, 2, 1);
        x.bind(2, true);
        party(x, 12, -1, -1, -1);
        x = Check.with("float f 1 0 1 0;float g 1 0 0 0;town t ask 0;town u ask 0;");
        x.go(0, 2, 0);
        party(x, 12, 1, 0, 2);
        x.extra(1, -2);
        party(x, 12, 1, 0, 1);
        x.bind(0, true);
        party(x, 12, 7, 2, 1);
        x.go(1, 2, 1);
        x.extra(1, 5);
        x.extra(0, -5);
        party(x, 12, 7, 1, 0);
    }

    private static void party(FloatTowns x, int most, int party, int a, int b) {
        Check.due("party(" + most + ",0)", x.party(most, 0), party);
        Check.due("party(" + most + ",1)", x.party(most, 1), a);
        Check.due("party(" + most + ",2)", x.party(most, 2), b);
    }

    private static void partyCalls() {
        Check.sentence("The FIRST PARTY of at most so many (1 .. 12), what 0: it (as above), 1: a, 2: b. "
            + "NONE: none WOULD, no such ones.");
        FloatTowns x = Check.with("float f 6 0 11 0;float g 6 0 11 0;like f g 2;like g f 2;town t ask 0;");
        party(x, 12, 48, 1, 0);
        party(x, 11, -1, -1, -1);
        party(x, 1, -1, -1, -1);
        for (int most : new int[] {0, 13, -1, -12, Integer.MAX_VALUE, Integer.MIN_VALUE}) {
            party(x, most, -1, -1, -1);
        }
        for (int what : new int[] {3, 4, -1, Integer.MAX_VALUE, Integer.MIN_VALUE}) {
            Check.due("party(12," + what + ")", x.party(12, what), -1);
        }
        Check.due("nobody goes by it", x.at(0, 1), 6);
        x.extra(0, -12);
        party(x, 1, 1, 1, 0);
        party(x, 12, 1, 1, 0);
        party(new FloatTowns(), 12, -1, -1, -1);
        x = Check.with("float f 1 0 0 0;town t ask - 1;");
        party(x, 12, 1, 1, 0);
        x.go(0, 1, 0);
        party(x, 12, -1, -1, -1);
    }

    // ---- goings ----

    private static void goings() {
        Check.sentence("At most n (0 .. 300) GOINGS: how many were; NONE: no such n.");
        FloatTowns x = Check.with(FILLING);
        for (int n : new int[] {-1, 301, -300, Integer.MAX_VALUE, Integer.MIN_VALUE}) {
            Check.due("goings(" + n + ")", x.goings(n), -1);
        }
        Check.due("none", x.goings(0), 0);
        Check.due("nobody went", x.at(0, 0), 0);
        Check.due("nothing to undo", x.count(7), 0);
        Check.due("one", x.goings(1), 1);
        Check.due("one went", x.at(0, 0), 1);
        // 13 less twice as many as are there, above 1: five come
        Check.due("as many as are left", x.goings(300), 4);
        Check.due("five are there", x.at(0, 0), 5);
        Check.due("it stands", x.goings(300), 0);
        Check.due("what stands is no step", x.count(7), 2);
        Check.due("one step for all four", x.undo(), 1);
        Check.due("one is there again", x.at(0, 0), 1);
        Check.due("just as many as would go", x.goings(4), 4);
        x = Check.with(CHASE);
        Check.due("the most, in a ring", x.goings(300), 300);
        Check.due("one step", x.count(7), 1);
        Check.due("all round a ring is a step, too", x.goings(4), 4);
        Check.due("two steps", x.count(7), 2);
        Check.due("none of no text", new FloatTowns().goings(300), 0);
    }

    private static void ring(FloatTowns x, int end, int behind, int period) {
        Check.due("ring(0)", x.ring(0), end);
        Check.due("ring(1)", x.ring(1), behind);
        Check.due("ring(2)", x.ring(2), period);
    }

    private static void rings() {
        Check.sentence("STANDS as soon as none WOULD; a RING, if a PARTING comes again "
            + "(FIRST: behind how many it was first, PERIOD)");
        FloatTowns x = Check.with(FILLING);
        for (int left = 5; left >= 0; left--) {
            ring(x, 1, left, -1);
            x.goings(1);
        }
        x = Check.with(CHASE);
        ring(x, 2, 2, 4);
        x.goings(1);
        ring(x, 2, 1, 4);
        for (int i = 0; i < 5; i++) {
            x.goings(1);
            ring(x, 2, 0, 4);
        }
        // none alone: they run to and fro from the first on
        x = Check.with(CHASE);
        x.go(0, 2, 0);
        x.go(1, 2, 0);
        ring(x, 2, 0, 4);
        x.bind(0, true);
        ring(x, 1, 0, -1);
    }

    private static void ringOfNone() {
        Check.sentence("What GOINGS from now on come to (nothing is changed)");
        FloatTowns x = Check.with(CHASE);
        x.go(0, 2, 1);
        x.extra(1, 1);
        List<Long> ahead = Check.answers(x);
        x.ring(0);
        x.ring(1);
        x.ring(2);
        x.empties(0);
        x.edge(1, 0);
        Check.due("all is as it was", ahead.equals(Check.answers(x)), true);
        ring(new FloatTowns(), 1, 0, -1);
    }

    /** Twelve that run after one another: the ring comes again behind 300 goings or fewer, or it is LOST. */
    private static void lostOrRing() {
        Check.sentence("LOST, if neither is so behind 300.");
        FloatTowns x = Check.with("good a 1;good b 28;good c 18;float a 2 6 6 0 wants a 28 wants b 24;"
            + "float b 4 8 3 0 wants b 22 wants c 10;float c 4 9 10 0 wants a 32 wants b 10;"
            + "float d 2 5 1 0 wants a 12 wants b 10 wants c 32;like a a - 6;like a b 17;like a c 2;"
            + "like a d - 10;like b a 19;like b b 2;like b c - 18;like b d - 6;like c a 15;like c b 8;"
            + "like c c 8;like c d - 10;like d a - 16;like d b - 7;like d c 18;like d d - 7;"
            + "town a gives a gives c ask cost/members + 2;town b gives a gives c votes ask pays + 2;"
            + "town c gives b votes ask many + 3;");
        for (int gone = 0; gone < 3; gone++) {
            ring(x, 3, -1, -1);
            x.goings(1);
        }
        for (int gone = 0; gone < 112; gone++) {
            ring(x, 2, Math.max(0, 110 - gone), 190);
            x.goings(1);
        }
    }

    private static void lostOrStands() {
        Check.sentence("LOST, if neither is so behind 300.");
        FloatTowns x = Check.with("good a 2;good b 4;good c 12;float a 4 4 2 0 wants b 6 wants c 6;float b 4 3 2 0;"
            + "float c 4 9 8 2 wants a 36 wants b 30 wants c 8;like a a - 3;like a b - 16;like a c 19;"
            + "like b b - 7;like b c 18;like c a - 2;like c b - 1;like c c 16;"
            + "town a gives b ask members*members/4 + 0;town b gives b ask - 3 + 0;town c gives a ask - 1 + 1;"
            + "town d gives a gives c ask members*2 + 4;");
        for (int left = 333; left >= 290; left--) {
            ring(x, left > 300 ? 3 : 1, left > 300 ? -1 : left, -1);
            x.goings(1);
        }
        Check.due("all that are left", x.goings(300), 289);
        Check.due("it stands", x.first(0), -1);
        x.undo();
        x.undo();
        Check.due("not all of 290 by 289", x.goings(289), 289);
        ring(x, 1, 1, -1);
    }

    private static void ringCalls() {
        Check.sentence("1: behind how many (of a RING FIRST; NONE if LOST); 2: PERIOD (NONE but of a RING). "
            + "NONE for another what.");
        FloatTowns x = Check.with(CHASE);
        for (int what : new int[] {3, 4, -1, Integer.MAX_VALUE, Integer.MIN_VALUE}) {
            Check.due("ring(" + what + ")", x.ring(what), -1);
        }
        ring(x, 2, 2, 4);
        x.bind(0, true);
        Check.due("what stands has no period", x.ring(2), -1);
        Check.due("behind none in t", x.ring(1) >= 0, true);
    }

    // ---- edges ----

    private static void edges() {
        Check.sentence("EDGE of a TOWN and SORT: the least EXTRA more (0 .. 999) with which one of that SORT "
            + "WOULD go from there.");
        FloatTowns x = Check.with("float f 1 0 0 0;town t ask 0;town u bound ask 0;");
        x.go(0, 2, 0);
        Check.due("where all are the same, by 1", x.edge(0, 0), 1);
        x.extra(0, 1);
        Check.due("it would as it is", x.edge(0, 0), 0);
        x.extra(0, -998);
        Check.due("999 more", x.edge(0, 0), 999);
        x.extra(0, -999);
        Check.due("1000 more are none", x.edge(0, 0), 1000);
        x.extra(1, -1);
        Check.due("to u, which is better by 1", x.edge(0, 0), 999);
        x.extra(1, -999);
        Check.due("to u, which is as good", x.edge(0, 0), 1);
        x.extra(0, 999);
        Check.due("beyond what extra may be, it goes by 0 more", x.edge(0, 0), 0);
        x.extra(0, -999);
        x.bind(0, true);
        Check.due("out of a bound town never", x.edge(0, 0), 1000);
        x = Check.with("float f 1 0 0 0;town t ask " + A_UNIT + ";town u ask - " + A_UNIT + ";");
        x.extra(1, 9);
        x.go(0, 2, 0);
        Check.due("a unit gained is enough", x.edge(0, 0), 0);
        x.extra(1, 0);
        x.go(0, 0, 1);
        Check.due("a unit lost by 1 more", x.edge(1, 0), 1);
        x.extra(1, -1);
        Check.due("a unit and 1 lost by 2 more", x.edge(1, 0), 2);
        x = Check.with("float f 1 0 0 7;town t ask 0;town u ask 0;");
        x.go(0, 2, 0);
        Check.due("moving is to be gained, too", x.edge(0, 0), 8);
        x.go(0, 0, 1);
        x.extra(0, -5);
        Check.due("to the first town", x.edge(1, 0), 3);
        x.extra(0, 5);
        Check.due("to alone", x.edge(1, 0), 8);
    }

    private static void edgeCalls() {
        Check.sentence("EDGE; 1000: none; NONE: no such ones, none is there.");
        FloatTowns x = Check.with("float f 1 0 0 0;float g 1 0 0 0;town t ask 0;town u ask 0;");
        x.go(0, 2, 0);
        Check.due("another sort is not there", x.edge(0, 1), -1);
        Check.due("another town is empty", x.edge(1, 0), -1);
        Check.due("alone is no town", x.edge(2, 1), -1);
        Check.due("the sort beyond", x.edge(0, 2), -1);
        for (int far : Check.FAR) {
            Check.due("no such town", x.edge(far, 0), -1);
            Check.due("no such sort", x.edge(0, far), -1);
        }
        x.bind(0, true);
        Check.due("none by 999 more", x.edge(0, 0), 1000);
        Check.due("bound, and none is there", x.edge(0, 1), -1);
    }

    private static void empties() {
        Check.sentence("EMPTIES: the least EXTRA more (0 .. 40) with which GOINGS STAND with nobody in the TOWN.");
        FloatTowns x = Check.with("float f 2 0 0 0;town t ask 0;town u bound ask 99;");
        x.go(0, 2, 0);
        x.go(0, 2, 0);
        Check.due("both leave by 1 more", x.empties(0), 1);
        x.extra(0, 1);
        Check.due("they leave by 0 more", x.empties(0), 0);
        x.extra(0, -39);
        Check.due("by 40 more", x.empties(0), 40);
        x.extra(0, -40);
        Check.due("by 41 more is by none", x.empties(0), 41);
        x.extra(0, -999);
        Check.due("by none", x.empties(0), 41);
        Check.due("u is empty by 0 more", x.empties(1), 0);
        x.go(0, 0, 1);
        Check.due("bound, it is never", x.empties(1), 41);
        x = Check.with(CHASE);
        Check.due("a ring is no stand: by 2 more f alone goes, to u", x.empties(0), 2);
        x = Check.with("float f 1 0 0 0;float g 1 0 0 0;like f g 5;like g f - 5;town t ask - 2;town u ask - 2;"
            + "town v bound ask 99;");
        Check.due("v is empty in a ring, which never stands", x.empties(2), 41);
        x = Check.with("good a 0;float f 2 0 1 0 wants a 5;town t gives a ask 0;");
        Check.due("who would come must not: 5 less 4 are no more than 1", x.empties(0), 4);
        x.go(0, 1, 0);
        Check.due("who is there must go: 5 less 5 are less than 1", x.empties(0), 5);
    }

    private static void emptiesCalls() {
        Check.sentence("EMPTIES; 41: by none; NONE: no such TOWN.");
        FloatTowns x = Check.with("float f 1 0 0 0;town t bound ask 0;");
        x.go(0, 1, 0);
        Check.due("by none", x.empties(0), 41);
        Check.due("alone is no town", x.empties(1), -1);
        for (int far : Check.FAR) {
            Check.due("no such town", x.empties(far), -1);
        }
        Check.due("none of no text", new FloatTowns().empties(0), -1);
    }
}
