/** Promises 25 (extra), 26 (bind), 27 (edge), 30 (reform), 31 (split) and 32 (out). */
public final class TermsTest {
    private static final long UNIT = 27720;

    public static void main(String[] args) {
        extras();
        binds();
        edges();
        edgeByAUnit();
        reforms();
        splits();
        splitOrder();
        outs();
        Check.end("TermsTest");
    }

    private static void extras() {
        FloatTowns x = Check.with("float f 1 0 0 0;town t ask 0;town u ask 0;");
        Check.due("as it is", x.extra(0, 0), false);
        Check.due("the most", x.extra(0, 999), true);
        Check.due("of another town", x.extra(1, -999), true);
        Check.due("the most is there", x.town(0, 4), 999);
        Check.due("the least is there", x.town(1, 4), -999);
        Check.due("as it is", x.extra(1, -999), false);
        Check.due("too much", x.extra(0, 1000), false);
        Check.due("too little", x.extra(0, -1000), false);
        Check.due("no such town", x.extra(2, 1), false);
        Check.due("no such town below", x.extra(-1, 1), false);
        Check.due("two steps", x.count(7), 2);
    }

    private static void binds() {
        FloatTowns x = Check.with("float f 1 0 0 0;town t ask 0;town u bound ask 0;");
        Check.due("not bound already", x.bind(0, false), false);
        Check.due("bound already", x.bind(1, true), false);
        Check.due("bound", x.bind(0, true), true);
        Check.due("loose", x.bind(1, false), true);
        Check.due("it is bound", x.town(0, 3), 1);
        Check.due("it is loose", x.town(1, 3), 0);
        Check.due("no such town: alone", x.bind(2, true), false);
        Check.due("no such town below", x.bind(-1, true), false);
        Check.due("no such town beyond", x.bind(32, true), false);
        Check.due("two steps", x.count(7), 2);
    }

    private static void edges() {
        FloatTowns x = Check.with("good a 1;float f 1 0 5 2 wants a 9;float g 1 0 9 0;town t gives a ask 1;"
            + "town u gives a ask 1 / 2;town v bound ask 0;");
        Check.due("none is there", x.edge(0, 0), -1);
        x.go(0, 3, 0);
        // u is worth 8 and a half, less 2 of moving: t must be worth less than 6 and a half, by 2 more
        Check.due("to u", x.edge(0, 0), 2);
        x.extra(0, 1);
        Check.due("1 more", x.edge(0, 0), 1);
        x.extra(0, 2);
        Check.due("it would go at once", x.edge(0, 0), 0);
        x.extra(0, -999);
        Check.due("999 and 2 more", x.edge(0, 0), 1000);
        x.extra(0, -997);
        Check.due("997 and 2 more", x.edge(0, 0), 999);
        x.bind(0, true);
        Check.due("bound", x.edge(0, 0), 1000);
        x.bind(0, false);
        x.extra(0, 0);
        x.extra(1, 9);
        Check.due("to alone: 8 less 3 less and one more", x.edge(0, 0), 6);
        x.extra(0, 5);
        Check.due("it gains nothing: by one more", x.edge(0, 0), 1);
        x.extra(0, 0);
        Check.due("no such town", x.edge(3, 0), -1);
        Check.due("no such town below", x.edge(-1, 0), -1);
        Check.due("no such sort", x.edge(0, 2), -1);
        Check.due("no such sort below", x.edge(0, -1), -1);
        Check.due("another sort is not there", x.edge(0, 1), -1);
        x.go(1, 3, 1);
        Check.due("out of u at once", x.edge(1, 1), 0);
        Check.due("nothing is changed", x.town(0, 4), 0);
    }

    /** A unit is enough to go for, and nothing less. */
    private static void edgeByAUnit() {
        FloatTowns x = Check.with("float f 1 0 0 0;town t ask 1 / 999 / 27;town u ask 0;town v ask - 1 / 999 / 27;");
        x.go(0, 3, 0);
        Check.due("it gains a unit", x.gain(0, 0, 3), 1);
        Check.due("it would go", x.edge(0, 0), 0);
        x.go(0, 0, 2);
        Check.due("it loses a unit", x.gain(0, 2, 3), -1);
        Check.due("by one more", x.edge(2, 0), 1);
        x.extra(2, -1);
        Check.due("by two more, as it loses 1 and a unit", x.edge(2, 0), 2);
    }

    private static void reforms() {
        FloatTowns x = Check.with("good a 10;float f 2 3 5 0 wants a 20;float g 1 1 5 0 wants a 11;"
            + "town t gives a ask 99;town u ask 99;");
        Check.due("with nobody there, 16 keep f away", x.reform(0, 30, 30, 0), -2);
        x.go(0, 2, 0);
        x.go(0, 2, 0);
        // g stays away if x and y are 6, f stays if x and 3 y are no more than 15
        Check.due("x", x.reform(0, 30, 30, 0), 2);
        Check.due("y", x.reform(0, 30, 30, 1), 4);
        x.go(1, 2, 0);
        Check.due("x with g there", x.reform(0, 30, 30, 0), 0);
        Check.due("y with g there: 7 y are 10", x.reform(0, 30, 30, 1), 2);
        Check.due("y up to 1 is too little: x 1, y 1 are 10", x.reform(0, 30, 1, 0), 1);
        Check.due("y up to 1", x.reform(0, 30, 1, 1), 1);
        Check.due("y 0: x 4", x.reform(0, 30, 0, 0), 4);
        Check.due("y 0", x.reform(0, 30, 0, 1), 0);
        Check.due("x up to 4, y 0", x.reform(0, 4, 0, 0), 4);
        Check.due("x 0, y up to 2", x.reform(0, 0, 2, 1), 2);
        Check.due("x 0, y up to 1", x.reform(0, 0, 1, 1), -2);
        Check.due("x up to 3, y 0", x.reform(0, 3, 0, 0), -2);
        Check.due("x up to 3, y 0, what 1", x.reform(0, 3, 0, 1), -2);
        Check.due("nothing is changed", x.asked(0, 0), 99 * UNIT);
        x.extra(0, -2);
        Check.due("extra stays: 7 y less 6 are 10 with 3", x.reform(0, 30, 30, 1), 3);
        x.extra(0, 4);
        Check.due("12 by extra alone", x.reform(0, 30, 30, 1), 0);
        Check.due("what 2", x.reform(0, 30, 30, 2), -1);
        Check.due("what -1", x.reform(0, 30, 30, -1), -1);
        Check.due("x 31", x.reform(0, 31, 0, 0), -1);
        Check.due("x -1", x.reform(0, -1, 0, 0), -1);
        Check.due("y 31", x.reform(0, 0, 31, 0), -1);
        Check.due("y -1", x.reform(0, 0, -1, 0), -1);
        Check.due("no such town", x.reform(2, 0, 0, 0), -1);
        Check.due("no such town below", x.reform(-1, 0, 0, 0), -1);
    }

    /** A town of four that like each other not is better as two; moving costs. */
    private static void splits() {
        FloatTowns x = Check.with("float f 4 0 0 1;like f f - 2;town t ask 0;town u bound ask 0;town v ask 0;");
        Check.due("of nobody: nobody", x.split(0, 1, 0), 0);
        Check.due("better by nothing", x.split(0, 1, 1), 0);
        for (int i = 0; i < 4; i++) {
            x.go(0, 3, 0);
        }
        // four: 24 below 0; two and two: 8 below 0, less 2; three and one: 12 below 0, less 1
        Check.due("two go", x.split(0, 1, 0), 2);
        Check.due("better by 14", x.split(0, 1, 1), 14 * UNIT);
        x.bind(0, true);
        Check.due("who is bound counts not", x.split(0, 1, 0), 2);
        x.extra(1, 9);
        Check.due("one goes where 9 more are asked: 24 less 12, 1, 9", x.split(0, 1, 0), 1);
        Check.due("better by 2", x.split(0, 1, 1), 2 * UNIT);
        x.extra(1, 11);
        Check.due("nobody goes where it is better by nothing", x.split(0, 1, 0), 0);
        Check.due("nothing", x.split(0, 1, 1), 0);
        Check.due("nothing is changed", x.at(0, 0), 4);
        Check.due("both the same", x.split(1, 1, 0), Check.MIN);
        Check.due("somebody is in the other one", x.split(1, 0, 0), Check.MIN);
        Check.due("alone is no town", x.split(0, 3, 0), Check.MIN);
        Check.due("from alone", x.split(3, 0, 0), Check.MIN);
        Check.due("below", x.split(-1, 0, 0), Check.MIN);
        Check.due("to below", x.split(0, -1, 0), Check.MIN);
        Check.due("what 2", x.split(0, 1, 2), Check.MIN);
        Check.due("what -1", x.split(0, 1, -1), Check.MIN);
    }

    private static void splitOrder() {
        FloatTowns x = Check.with("float f 1 0 0 0;float g 1 0 0 0;like f g - 1;town t ask 0;town u ask 0;");
        x.go(0, 2, 0);
        x.go(1, 2, 0);
        Check.due("the fewest of sort 0: g goes", x.split(0, 1, 0), 7);
        Check.due("better by 1", x.split(0, 1, 1), UNIT);
        x.extra(1, -5);
        Check.due("all go: 10 less 1, or one goes: 5", x.split(0, 1, 0), 8);
        Check.due("better by 10", x.split(0, 1, 1), 10 * UNIT);
        x = Check.with("float f 3 0 0 0;float g 2 0 0 0;like f g - 1;like g f - 1;town t ask 0;town u ask 0;");
        for (int i = 0; i < 3; i++) {
            x.go(0, 2, 0);
            x.go(1, i < 2 ? 2 : 0, i < 2 ? 0 : 2);
        }
        Check.due("one g is left with three f: g goes", x.split(0, 1, 0), 7);
        x.go(1, 2, 0);
        Check.due("two g go ahead of three f", x.split(0, 1, 0), 14);
        Check.due("better by 12", x.split(0, 1, 1), 12 * UNIT);
    }

    private static void outs() {
        FloatTowns x = Check.with("town t ask 0;town u ask 0;town v ask 0;town w ask 0;"
            + "ground t 6 63 63 63 63 63 63;ground u 3 2 5 2;ground v 4;"
            + "ground w 5 31 17 21 17 31 0;");
        for (int i = 0; i < 6; i++) {
            for (int j = 0; j < 6; j++) {
                int edge = Math.min(Math.min(i, 5 - i), Math.min(j, 5 - j));
                Check.due("out(0," + i + "," + j + ")", x.out(0, i, j), edge);
            }
        }
        Check.due("at the edge", x.out(1, 1, 0), 0);
        Check.due("at the edge", x.out(1, 0, 1), 0);
        Check.due("no float in the middle", x.out(1, 1, 1), -2);
        Check.due("no float in the corner", x.out(1, 2, 2), -2);
        Check.due("no x 3", x.out(1, 3, 0), -1);
        Check.due("no x -1", x.out(1, -1, 0), -1);
        Check.due("no y 3", x.out(1, 0, 3), -1);
        Check.due("no y -1", x.out(1, 0, -1), -1);
        Check.due("no rows", x.out(2, 0, 0), -1);
        Check.due("in the ring of others", x.out(3, 2, 2), 1);
        Check.due("below it all is free", x.out(3, 2, 4), 0);
        Check.due("free", x.out(3, 2, 5), -2);
        Check.due("no such town", x.out(4, 0, 0), -1);
        Check.due("no such town below", x.out(-1, 0, 0), -1);
        Check.due("no ground", Check.with("town t ask 0;").out(0, 0, 0), -1);
        // a long way round through free places is better than a short one through others
        x = Check.with("town t ask 0;ground t 6 63 33 45 45 9 47;");
        Check.due("round and out at the side", x.out(0, 3, 2), 0);
        x = Check.with("town t ask 0;ground t 6 63 33 45 45 41 63;");
        Check.due("round and one in the way", x.out(0, 3, 2), 1);
    }
}
