import java.util.List;

/**
 * The document's section 3 but for EDGE and EMPTIES, and promises 20, 21, 23 to 26 and 30 to 32: each sentence that
 * names an edge, and behind it what it asks on both sides of the edge.
 */
public final class EdgesAllTest {
    private static final long UNIT = 27720;
    private static final String TWO_TOWNS = "town t ask 0;town u ask 0;";
    /** 3 by 10 by 10 by 10 partings in two towns: 3000. */
    private static final String MOST = "float a 1 0 0 0;float b 3 0 0 0;float c 3 0 0 0;float d 3 0 0 0;" + TWO_TOWNS;
    /** 3 by 6 by 6 by 28: 3024. */
    private static final String MORE = "float a 1 0 0 0;float b 2 0 0 0;float c 2 0 0 0;float d 6 0 0 0;" + TWO_TOWNS;
    /** Nobody stays with whom it runs from, and the other one follows. */
    private static final String NONE_HOLDS =
        "float f 1 0 0 0;float g 1 0 0 0;like f g 5;like g f - 5;town t ask - 2;town u ask - 2;";

    public static void main(String[] args) {
        order();
        most();
        all();
        heldCalls();
        bests();
        bestCalls();
        losts();
        lostCalls();
        extras();
        binds();
        reforms();
        reformFirst();
        reformCalls();
        splits();
        splitFirst();
        splitCalls();
        outs();
        outCalls();
        Check.end("EdgesAllTest");
    }

    // ---- all partings ----

    private static void order() {
        Check.sentence("ALL: all PARTINGS, one behind the other by how many of SORT 0 are in PLACE 0 (the fewest first), "
            + "1, .. then of SORT 1 and so on.");
        FloatTowns x = Check.with("float f 2 0 0 0;float g 1 0 0 0;" + TWO_TOWNS);
        String[] twos = {"002", "011", "020", "101", "110", "200"};
        String[] ones = {"001", "010", "100"};
        Check.due("all hold", x.all(1), 18);
        for (int k = 0; k < 18; k++) {
            for (int place = 0; place < 3; place++) {
                Check.due("held(" + k + ",0," + place + ")", x.held(k, 0, place), twos[k / 3].charAt(place) - '0');
                Check.due("held(" + k + ",1," + place + ")", x.held(k, 1, place), ones[k % 3].charAt(place) - '0');
            }
        }
        x = Check.with("float f 2 0 0 0;float g 1 0 0 0;" + TWO_TOWNS);
        x.go(0, 2, 1);
        x.go(1, 2, 0);
        Check.due("wherever they are now", x.held(0, 0, 2), 2);
        Check.due("the second one", x.held(1, 1, 1), 1);
        Check.due("the last one", x.held(17, 0, 0) + x.held(17, 1, 0), 3);
        x = Check.with("float f 6 0 0 0;town a ask 0;town b ask 0;town c ask 0;town d ask 0;");
        Check.due("six in the last town but none alone", x.held(6, 0, 3), 6);
        Check.due("then one in the one ahead of it", x.held(7, 0, 2), 1);
        Check.due("and five alone", x.held(7, 0, 4), 5);
        Check.due("six in the first town", x.held(209, 0, 0), 6);
    }

    private static void most() {
        Check.sentence("With more than 3000 of them there are none told: SPENT.");
        FloatTowns x = Check.with(MOST);
        Check.due("3000 are told", x.all(0), 3000);
        Check.due("all hold", x.all(1), 3000);
        Check.due("the last one", x.held(2999, 3, 0), 3);
        Check.due("its first sort", x.held(2999, 0, 0), 1);
        Check.due("their best", x.lost(0), 0);
        x.go(0, 2, 0);
        Check.due("it becomes the best", x.best(), true);
        x = Check.with(MORE);
        Check.due("3024 are not", x.all(0), -2);
        Check.due("nor that hold", x.all(1), -2);
        Check.due("held", x.held(0, 0, 0), -2);
        Check.due("lost", x.lost(0), -2);
        x.go(0, 2, 0);
        Check.due("best", x.best(), false);
        Check.due("it stays in t", x.at(0, 0), 1);
        Check.due("one step", x.count(7), 1);
        Check.tell(x, MOST);
        Check.due("told again by another text", x.all(0), 3000);
        Check.tell(x, MORE);
        Check.due("and not", x.all(1), -2);
        x = Check.with("float a 3 0 0 0;float b 3 0 0 0;float c 2 0 0 0;float d 2 0 0 0;float e 2 0 0 0;"
            + "town a ask 0;town b ask 0;town c ask 0;town d ask 0;");
        Check.due("the most of all", x.all(0), -2);
        x = Check.with("float a 6 0 0 0;float b 6 0 0 0;");
        Check.due("without towns one", x.all(0), 1);
        x = Check.with("town a ask 0;town b ask 0;town c ask 0;town d ask 0;");
        Check.due("without floats one", x.all(0), 1);
    }

    private static void all() {
        Check.sentence("Of ALL, what 0: how many PARTINGS, 1: how many HOLD. SPENT; NONE for another what (looked at first).");
        FloatTowns x = Check.with("float f 1 0 1 0;" + TWO_TOWNS);
        Check.due("three", x.all(0), 3);
        Check.due("one holds", x.all(1), 1);
        FloatTowns spent = Check.with(MORE);
        for (int what : new int[] {2, 3, -1, -2, Integer.MAX_VALUE, Integer.MIN_VALUE}) {
            Check.due("all(" + what + ")", x.all(what), -1);
            Check.due("all(" + what + "), ahead of SPENT", spent.all(what), -1);
        }
        Check.due("none holds", Check.with(NONE_HOLDS).all(1), 0);
        Check.due("of nobody one", new FloatTowns().all(0), 1);
        Check.due("and it holds", new FloatTowns().all(1), 1);
        x.bind(0, true);
        Check.due("bound, one more holds", x.all(1), 2);
        x.extra(0, -1);
        Check.due("as good as alone, still two", x.all(1), 2);
        x.extra(0, -2);
        Check.due("better than alone, one", x.all(1), 1);
        x.go(0, 2, 1);
        Check.due("the parting counts not", x.all(1), 1);
        x = Check.with("float f 1 0 1 0;town a ask 5;town b ask 5;town c ask 5;town d ask 5;");
        Check.due("alone it holds", x.all(1), 1);
        for (int town = 0; town < 4; town++) {
            x.extra(town, -9);
        }
        Check.due("by what is asked now it holds in each town", x.all(1), 4);
        Check.due("in the last one first", x.held(0, 0, 3), 1);
    }

    private static void heldCalls() {
        Check.sentence("Of the k-th PARTING that HOLDS (0: the first): how many of a SORT are in a PLACE. "
            + "SPENT (asked first); NONE: no such ones.");
        FloatTowns x = Check.with("float f 1 0 0 0;float g 1 0 5 0;town t ask 0;");
        Check.due("two hold", x.all(1), 2);
        Check.due("the first", x.held(0, 0, 1), 1);
        Check.due("the second", x.held(1, 0, 0), 1);
        Check.due("of g", x.held(1, 1, 1), 1);
        Check.due("no third", x.held(2, 0, 0), -1);
        Check.due("the sort beyond", x.held(0, 2, 0), -1);
        Check.due("the place beyond", x.held(0, 0, 2), -1);
        FloatTowns spent = Check.with(MORE);
        for (int far : Check.FAR) {
            Check.due("no such k", x.held(far, 0, 0), -1);
            Check.due("no such sort", x.held(0, far, 0), -1);
            Check.due("no such place", x.held(0, 0, far), -1);
            Check.due("SPENT ahead of all", spent.held(far, far, far), -2);
        }
        Check.due("none holds", Check.with(NONE_HOLDS).held(0, 0, 0), -1);
        Check.due("of nobody", new FloatTowns().held(0, 0, 0), -1);
    }

    private static void bests() {
        Check.sentence("BEST: the PARTING with the greatest TOTAL, of several the first.");
        FloatTowns x = Check.with("float f 2 0 1 0;like f f 3;" + TWO_TOWNS);
        Check.due("both together are 6", x.lost(0), 6 * UNIT);
        Check.due("best", x.best(), true);
        Check.due("in u, as that has fewer in t", x.at(0, 1), 2);
        x.extra(1, 1);
        Check.due("now t is better", x.best(), true);
        Check.due("in t", x.at(0, 0), 2);
        x = Check.with("float f 2 0 1 0;" + TWO_TOWNS);
        Check.due("the first of all", x.best(), false);
        x.extra(0, -1);
        Check.due("all are as good", x.best(), false);
        x = Check.with("float f 1 0 0 9;town t ask - 1 / 999 / 27;town u ask 0;");
        Check.due("by a unit, whatever moving costs", x.best(), true);
        Check.due("in t", x.at(0, 0), 1);
        Check.due("its total", x.total(), 1);
        x = Check.with("float f 1 0 0 0;town t bound ask 0;town u bound ask - 1;");
        x.go(0, 2, 0);
        Check.due("out of a bound town", x.best(), true);
        Check.due("in u", x.at(0, 1), 1);
        x = Check.with("float f 2 0 0 0;like f f - 20;town t ask 999;town u ask 999;");
        x.go(0, 2, 0);
        x.go(0, 2, 0);
        Check.due("a total of 0 is above those below 0", x.lost(0), 0);
        Check.due("best", x.best(), true);
        Check.due("all alone", x.at(0, 2), 2);
        x = Check.with("town t ask 0;");
        Check.due("of nobody", x.lost(0), 0);
    }

    private static void bestCalls() {
        Check.sentence("The PARTING becomes BEST: true; false: SPENT, it is that already.");
        FloatTowns x = Check.with("float f 1 0 0 0;town t ask - 1;");
        Check.due("true", x.best(), true);
        List<Long> ahead = Check.answers(x);
        Check.due("false", x.best(), false);
        Check.due("and no step", x.count(7), 1);
        Check.due("nothing is changed", ahead.equals(Check.answers(x)), true);
        Check.due("a step back", x.undo(), 0);
        Check.due("true again", x.best(), true);
        Check.due("of no text", new FloatTowns().best(), false);
        x = Check.with(MORE);
        x.extra(0, -5);
        Check.due("SPENT", x.best(), false);
        Check.due("no step", x.count(7), 1);
    }

    private static void losts() {
        Check.sentence("LOST: its TOTAL less that of the one of those that HOLD with the greatest (the least) TOTAL.");
        FloatTowns x = Check.with("float f 2 0 0 0;like f f - 3;town t ask - 4;town u ask - 1;");
        Check.due("one in t, one in u", x.lost(0), 5 * UNIT);
        Check.due("it holds", x.lost(1), 0);
        Check.due("both in t hold", x.lost(2), 3 * UNIT);
        x.extra(0, 2);
        Check.due("one in t, one in u", x.lost(0), 3 * UNIT);
        Check.due("one holds alone", x.lost(1), x.lost(2));
        x = Check.with("float f 2 0 1 0;like f f 3;town t ask 0;");
        Check.due("both in t", x.lost(1), 0);
        Check.due("both alone", x.lost(2), 4 * UNIT);
        x.extra(0, 9);
        Check.due("one holds, the greatest and the least", x.lost(1), 0);
        Check.due("the same", x.lost(2), 0);
        // two that gain by leaving one another to others: what holds is below the best
        x = Check.with("float f 1 0 1 0;float g 1 0 0 0;like f g - 1;like g f 9;town t ask - 1;");
        Check.due("both in t are best", x.lost(0), 10 * UNIT);
        Check.due("but f would go: g alone in t holds", x.lost(1), 8 * UNIT);
        Check.due("nothing else does", x.lost(2), 8 * UNIT);
    }

    private static void lostCalls() {
        Check.sentence("SPENT; Long.MIN_VALUE: none HOLDS (1, 2), no such what (that is looked at first).");
        FloatTowns x = Check.with(NONE_HOLDS);
        Check.due("the best all the same", x.lost(0), 4 * UNIT);
        Check.due("none holds", x.lost(1), Check.MIN);
        Check.due("none holds", x.lost(2), Check.MIN);
        FloatTowns spent = Check.with(MORE);
        for (int what = 0; what < 3; what++) {
            Check.due("SPENT", spent.lost(what), -2);
        }
        for (int what : new int[] {3, 4, -1, -2, Integer.MAX_VALUE, Integer.MIN_VALUE}) {
            Check.due("lost(" + what + ")", x.lost(what), Check.MIN);
            Check.due("lost(" + what + ") ahead of SPENT", spent.lost(what), Check.MIN);
        }
        Check.due("of nobody", new FloatTowns().lost(2), 0);
    }

    // ---- what towns may do ----

    private static void extras() {
        Check.sentence("A TOWN's EXTRA (-999 .. 999): true; false: no such ones, it is so.");
        FloatTowns x = Check.with("float f 1 0 0 0;town t ask 0;town u ask 0;");
        Check.due("it is 0", x.extra(0, 0), false);
        Check.due("the most", x.extra(0, 999), true);
        Check.due("it is so", x.extra(0, 999), false);
        Check.due("the least", x.extra(1, -999), true);
        Check.due("it is so", x.extra(1, -999), false);
        for (int extra : new int[] {1000, -1000, 1998, Integer.MAX_VALUE, Integer.MIN_VALUE, 65536}) {
            Check.due("extra(0," + extra + ")", x.extra(0, extra), false);
        }
        Check.due("alone is no town", x.extra(2, 1), false);
        for (int far : Check.FAR) {
            Check.due("no such town", x.extra(far, 1), false);
        }
        Check.due("two steps", x.count(7), 2);
        Check.due("the most stays", x.town(0, 4), 999);
        Check.due("the least stays", x.town(1, 4), -999);
        Check.due("to 0 again", x.extra(0, 0), true);
        Check.due("of no text", new FloatTowns().extra(0, 1), false);
    }

    private static void binds() {
        Check.sentence("A TOWN is BOUND, or not: true; false: no such TOWN, it is so.");
        FloatTowns x = Check.with("float f 1 0 0 0;town t ask 0;town u bound ask 0;");
        Check.due("it is loose", x.bind(0, false), false);
        Check.due("it is bound", x.bind(1, true), false);
        Check.due("bound", x.bind(0, true), true);
        Check.due("it is so", x.bind(0, true), false);
        Check.due("loose", x.bind(1, false), true);
        Check.due("it is so", x.bind(1, false), false);
        Check.due("alone is no town", x.bind(2, true), false);
        for (int far : Check.FAR) {
            Check.due("no such town", x.bind(far, true), false);
            Check.due("no such town", x.bind(far, false), false);
        }
        Check.due("two steps", x.count(7), 2);
        Check.due("t", x.town(0, 3), 1);
        Check.due("u", x.town(1, 3), 0);
        Check.due("of no text", new FloatTowns().bind(0, true), false);
    }

    private static void reform(FloatTowns x, int a, int b, int flat, int times) {
        Check.due("reform(0," + a + "," + b + ",0)", x.reform(0, a, b, 0), flat);
        Check.due("reform(0," + a + "," + b + ",1)", x.reform(0, a, b, 1), times);
    }

    private static void reforms() {
        Check.sentence("REFORM of a TOWN by A, B (0 .. 30): instead of its RULE's E x and y times what a SORT PAYS is asked "
            + "(EXTRA stays)");
        FloatTowns x = Check.with("good a 30;float f 1 1 0 0 wants a 99;float g 1 0 0 0;town t gives a ask 1 / 0;");
        x.go(0, 1, 0);
        x.bind(0, true);
        // g, which pays 0, must not gain by coming
        reform(x, 30, 30, 0, 30);
        reform(x, 30, 29, 1, 29);
        reform(x, 0, 29, -2, -2);
        reform(x, 30, 0, 30, 0);
        reform(x, 29, 0, -2, -2);
        x.extra(0, 1);
        reform(x, 30, 29, 0, 29);
        x.extra(0, -1);
        reform(x, 30, 30, 1, 30);
        x.extra(0, 30);
        reform(x, 0, 0, 0, 0);
        x.extra(0, -30);
        reform(x, 30, 30, 30, 30);
        x.extra(0, -31);
        reform(x, 30, 30, -2, -2);
        Check.due("nothing is changed: the rule's E is 0", x.asked(0, 0), -31 * UNIT);
    }

    private static void reformFirst() {
        Check.sentence("x 0 .. A, y 0 .. B: the first (by x, then y) with which the PARTING HOLDS and it is MET there.");
        FloatTowns x = Check.with("good a 10;float f 2 3 5 0 wants a 20;float g 1 1 5 0 wants a 11;"
            + "town t gives a ask 99;town u ask 99;");
        reform(x, 30, 30, -2, -2);
        x.go(0, 2, 0);
        x.go(0, 2, 0);
        // g stays away from x + y = 6 on, f stays up to x + 3 y = 15
        reform(x, 30, 30, 2, 4);
        reform(x, 2, 4, 2, 4);
        reform(x, 30, 3, 3, 3);
        reform(x, 1, 30, -2, -2);
        x.go(1, 2, 0);
        // all must be asked 10: 3 x and 7 y
        reform(x, 30, 30, 0, 2);
        reform(x, 30, 1, 1, 1);
        reform(x, 30, 0, 4, 0);
        reform(x, 3, 0, -2, -2);
        x.bind(0, true);
        x.extra(0, -999);
        reform(x, 30, 30, -2, -2);
        FloatTowns empty = Check.with("good a 0;float f 1 1 0 0 wants a 9;town t gives a ask 0;");
        Check.due("empty, and met: nobody comes", empty.reform(0, 30, 30, 1), 9);
        empty = Check.with("good a 1;float f 1 1 0 0;town t gives a ask 0;");
        Check.due("empty, and never met", empty.reform(0, 30, 30, 1), -2);
    }

    private static void reformCalls() {
        Check.sentence("REFORM, what 0: x, 1: y. -2: none; NONE: no such ones.");
        FloatTowns x = Check.with("float f 1 1 0 0;town t ask 0;town u ask 0;");
        Check.due("what 0", x.reform(0, 30, 30, 0), 0);
        Check.due("what 1", x.reform(1, 0, 0, 1), 0);
        for (int far : new int[] {31, 32, 60, -1, -30, Integer.MAX_VALUE, Integer.MIN_VALUE}) {
            Check.due("no such a", x.reform(0, far, 0, 0), -1);
            Check.due("no such b", x.reform(0, 0, far, 0), -1);
        }
        for (int what : new int[] {2, 3, -1, Integer.MAX_VALUE, Integer.MIN_VALUE}) {
            Check.due("no such what", x.reform(0, 30, 30, what), -1);
        }
        Check.due("alone is no town", x.reform(2, 30, 30, 0), -1);
        for (int far : Check.FAR) {
            Check.due("no such town", x.reform(far, 30, 30, 0), -1);
        }
        x.extra(0, -1);
        Check.due("none", x.reform(0, 0, 0, 0), -2);
        Check.due("none, what 1", x.reform(0, 0, 0, 1), -2);
        Check.due("no such what goes ahead", x.reform(0, 0, 0, 2), -1);
    }

    private static void split(FloatTowns x, int party, long better) {
        Check.due("split(0,1,0)", x.split(0, 1, 0), party);
        Check.due("split(0,1,1)", x.split(0, 1, 1), better * UNIT);
    }

    private static void splits() {
        Check.sentence("of all PARTIES from it to that one (and nobody) the one with the greatest sum of WORTH of all floats "
            + "of the TOWN behind it, less MOVING of those that go");
        FloatTowns x = Check.with("float f 4 0 0 1;like f f - 2;town t ask 0;town u ask 0;");
        split(x, 0, 0);
        x.go(0, 2, 0);
        split(x, 0, 0);
        x.go(0, 2, 0);
        // two: 4 below 0; one and one: 0, less 1
        split(x, 1, 3);
        x.extra(1, 2);
        split(x, 1, 1);
        x.extra(1, 3);
        split(x, 0, 0);
        x.extra(1, -3);
        // one goes: 3, less 1; both go: 1 each, less 1 each
        split(x, 1, 6);
        // one goes: 5, less 1; both go: 3 each, less 1 each
        x.extra(1, -5);
        split(x, 1, 8);
        x.extra(1, -6);
        split(x, 2, 10);
        x.bind(0, true);
        split(x, 2, 10);
        x.bind(1, true);
        split(x, 2, 10);
        x.undo();
        x.undo();
        x.go(0, 0, 2);
        // it goes for 6, less 1
        split(x, 1, 5);
        x.extra(1, -999);
        split(x, 1, 998);
        x = Check.with("float f 2 0 0 0;float g 3 0 0 0;town t ask 0;town u ask - 9;town v ask 0;");
        x.go(0, 3, 0);
        x.go(1, 3, 0);
        x.go(1, 3, 2);
        // who is elsewhere goes not with them
        split(x, 8, 18);
        x = Check.with("float f 6 0 0 0;float g 6 0 0 0;like f f - 1;like g g - 1;town t ask 0;town u ask 0;");
        for (int i = 0; i < 6; i++) {
            x.go(0, 2, 0);
            x.go(1, 2, 0);
        }
        split(x, 3 + 7 * 3, 36);
        x.extra(0, 99);
        split(x, 6 + 7 * 6, 12 * 99);
    }

    private static void splitFirst() {
        Check.sentence("of several the first by how many of SORT 0, 1, .. (the fewest first). BETTER: that less the sum now.");
        FloatTowns x = Check.with("float f 2 0 0 0;float g 2 0 0 0;like f g - 1;like g f - 1;town t ask 0;town u ask 0;");
        for (int i = 0; i < 2; i++) {
            x.go(0, 2, 0);
            x.go(1, 2, 0);
        }
        split(x, 14, 8);
        x = Check.with("float f 3 0 0 0;like f f - 1;town t ask 0;town u ask 0;");
        for (int i = 0; i < 3; i++) {
            x.go(0, 2, 0);
        }
        Check.due("one goes or two: the fewest", x.split(0, 1, 0), 1);
        x = Check.with("float f 1 0 0 0;float g 1 0 0 0;town t ask 0;town u ask 0;");
        x.go(0, 2, 0);
        x.go(1, 2, 0);
        split(x, 0, 0);
        x.extra(0, 1);
        split(x, 8, 2);
        x = Check.with("float f 1 0 0 0;float g 1 0 0 0;town t ask members * members;town u ask members * members;");
        x.go(0, 2, 0);
        x.go(1, 2, 0);
        split(x, 7, 6);
    }

    private static void splitCalls() {
        Check.sentence("SPLIT, what 0: the PARTY (as above), 1: BETTER. Long.MIN_VALUE: no such ones, both the same, "
            + "somebody is in the other one.");
        FloatTowns x = Check.with("float f 2 0 0 0;town t ask 0;town u ask 0;");
        x.go(0, 2, 0);
        List<Long> ahead = Check.answers(x);
        Check.due("nobody goes", x.split(0, 1, 0), 0);
        Check.due("both the same", x.split(0, 0, 0), Check.MIN);
        Check.due("both the same, empty", x.split(1, 1, 0), Check.MIN);
        Check.due("somebody is in t", x.split(1, 0, 0), Check.MIN);
        Check.due("somebody is in t", x.split(1, 0, 1), Check.MIN);
        Check.due("alone is no town", x.split(2, 1, 0), Check.MIN);
        Check.due("to alone", x.split(0, 2, 0), Check.MIN);
        for (int far : Check.FAR) {
            Check.due("no such town", x.split(far, 1, 0), Check.MIN);
            Check.due("no such other", x.split(0, far, 0), Check.MIN);
        }
        for (int what : new int[] {2, 3, -1, Integer.MAX_VALUE, Integer.MIN_VALUE}) {
            Check.due("no such what", x.split(0, 1, what), Check.MIN);
        }
        Check.due("nothing is changed", ahead.equals(Check.answers(x)), true);
        x.go(0, 0, 2);
        Check.due("of an empty town", x.split(0, 1, 0), 0);
        Check.due("better by nothing", x.split(0, 1, 1), 0);
        Check.due("to one that is empty now", x.split(1, 0, 1), 0);
    }

    // ---- grounds ----

    private static void outs() {
        Check.sentence("how many other floats must at least move so that it comes by steps left, right, up, down through "
            + "free places (those that move are free) beyond the ground's edge.");
        FloatTowns x = Check.with("town t ask 0;town u ask 0;town v ask 0;town w ask 0;"
            + "ground t 6 63 63 63 63 63 63;ground u 1 1;ground v 3 7 5 2;ground w 6 63 33 45 45 41 63;");
        for (int i = 0; i < 6; i++) {
            for (int j = 0; j < 6; j++) {
                int edge = Math.min(Math.min(i, 5 - i), Math.min(j, 5 - j));
                Check.due("out(0," + i + "," + j + ")", x.out(0, i, j), edge);
            }
        }
        Check.due("the least ground", x.out(1, 0, 0), 0);
        Check.due("at the lower edge", x.out(2, 1, 2), 0);
        Check.due("by a long free way one must move", x.out(3, 3, 2), 1);
        // no step goes aslant: (1, 1) has free corners alone
        x = Check.with("town t ask 0;ground t 3 2 7 2;town u ask 0;ground u 3 5 7 7;town v ask 0;ground v 5 31 31 29 31 31;"
            + "town w ask 0;ground w 5 31 31 21 31 31;");
        Check.due("none aslant", x.out(0, 1, 1), 1);
        Check.due("one step up", x.out(1, 1, 1), 0);
        Check.due("a free place beside it", x.out(2, 2, 2), 1);
        Check.due("free on both sides", x.out(3, 2, 2), 1);
        for (int way = 0; way < 4; way++) {
            int[] rows = {31, 31, 31, 31, 31};
            rows[way == 0 ? 0 : way == 1 ? 4 : 2] = way == 2 ? 30 : way == 3 ? 15 : 27;
            rows[way == 0 ? 1 : way == 1 ? 3 : 2] &= way == 2 ? 29 : way == 3 ? 23 : 27;
            StringBuilder text = new StringBuilder("town t ask 0;ground t 5");
            for (int row : rows) {
                text.append(' ').append(row);
            }
            Check.due("out by way " + way, Check.with(text + ";").out(0, 2, 2), 0);
        }
    }

    private static void outCalls() {
        Check.sentence("OUT; -2: no float there; NONE: no such TOWN, place, no ground.");
        FloatTowns x = Check.with("town t ask 0;town u ask 0;town v ask 0;ground t 3 5 2;ground u 2;");
        Check.due("a float", x.out(0, 0, 0), 0);
        Check.due("a float", x.out(0, 2, 0), 0);
        Check.due("none there", x.out(0, 1, 0), -2);
        Check.due("none there", x.out(0, 2, 1), -2);
        Check.due("the column beyond", x.out(0, 3, 0), -1);
        Check.due("the row beyond", x.out(0, 0, 2), -1);
        Check.due("no rows, no ground", x.out(1, 0, 0), -1);
        Check.due("no ground", x.out(2, 0, 0), -1);
        Check.due("alone is no town", x.out(3, 0, 0), -1);
        for (int far : Check.FAR) {
            Check.due("no such town", x.out(far, 0, 0), -1);
            Check.due("no such column", x.out(0, far, 0), -1);
            Check.due("no such row", x.out(0, 0, far), -1);
        }
    }
}
