/** Promises 14 (go), 15 (first), 16 (would), 17 (party), 18 (goings), 19 (ring) and 28 (empties). */
public final class GoingTest {
    public static void main(String[] args) {
        goes();
        firsts();
        bound();
        woulds();
        parties();
        partyOrder();
        goings();
        rings();
        empties();
        Check.end("GoingTest");
    }

    private static void goes() {
        FloatTowns x = Check.with("float f 2 0 9 9;town t bound ask 99;town u ask 0;storm 2;");
        Check.due("none at a", x.go(0, 0, 1), false);
        Check.due("both the same", x.go(0, 2, 2), false);
        Check.due("no such sort", x.go(1, 2, 0), false);
        Check.due("no such sort below", x.go(-1, 2, 0), false);
        Check.due("no such a", x.go(0, 3, 0), false);
        Check.due("no such b", x.go(0, 2, 3), false);
        Check.due("no such b below", x.go(0, 2, -1), false);
        Check.due("nothing to undo by these", x.count(7), 0);
        Check.due("would it or not", x.go(0, 2, 0), true);
        Check.due("it is there", x.at(0, 0), 1);
        Check.due("it is not alone", x.at(0, 2), 1);
        Check.due("out of a bound town", x.go(0, 0, 1), true);
        x.months(0, 1);
        Check.due("all are tied", x.tied(), 12);
        Check.due("it goes when tied", x.go(0, 1, 2), true);
        Check.due("alone again", x.at(0, 2), 2);
        Check.due("each can be undone", x.count(7), 4);
    }

    /** The least sort, then the least place that it leaves, then the least that it goes to. */
    private static void firsts() {
        FloatTowns x = Check.with("good a 1;good b 1;float f 1 0 5 0 wants a 3 wants b 9;float g 2 0 5 0 wants a 9 wants b 9;"
            + "town t gives a ask 0;town u gives b ask 0;town v gives a gives b ask 0;");
        due(x, 0, 3, 1);
        Check.due("first(3)", x.first(3), -1);
        Check.due("first(-1)", x.first(-1), -1);
        x.go(0, 3, 1);
        due(x, 0, 1, 2);
        x.go(0, 1, 2);
        due(x, 1, 3, 0);
        x.go(1, 3, 1);
        x.go(1, 3, 2);
        due(x, 1, 1, 2);
        x.go(1, 1, 0);
        due(x, 1, 0, 2);
        x.go(1, 0, 2);
        due(x, -1, -1, -1);
        FloatTowns even = Check.with("good a 1;float f 1 0 5 4 wants a 9;town t gives a ask 0;");
        due(even, -1, -1, -1);
        even.extra(0, -1);
        due(even, 0, 1, 0);
    }

    private static void due(FloatTowns x, int sort, int a, int b) {
        Check.due("first(0)", x.first(0), sort);
        Check.due("first(1)", x.first(1), a);
        Check.due("first(2)", x.first(2), b);
    }

    private static void bound() {
        FloatTowns x = Check.with("float f 2 0 9 0;town t bound ask 0;");
        x.go(0, 1, 0);
        due(x, -1, -1, -1);
        Check.due("a party is bound, too", x.party(12, 0), -1);
        Check.due("would", x.would(1, 0, 1), 0);
        Check.due("gain asks not", x.gain(0, 0, 1), 9 * 27720);
        x.bind(0, false);
        due(x, 0, 0, 1);
        Check.due("would", x.would(1, 0, 1), 1);
        x = Check.with("good a 1;float f 1 0 0 0 wants a 1;town t gives a bound ask 0;");
        due(x, 0, 1, 0);
        Check.due("into a bound town", x.party(1, 2), 0);
    }

    /** Two f like one another by 4, and alone they are worth 3: one would not go alone, two would. */
    private static void woulds() {
        FloatTowns x = Check.with("float f 3 0 3 0;float g 2 0 1 0;like f f 4;like g f 1;like f g - 3;town t ask 0;town u ask 9;");
        Check.due("one", x.would(1, 2, 0), 0);
        Check.due("two", x.would(2, 2, 0), 1);
        Check.due("three", x.would(3, 2, 0), 1);
        Check.due("four", x.would(4, 2, 0), -1);
        Check.due("two f, one g: 1 each", x.would(9, 2, 0), 0);
        Check.due("three f, one g: 5 and 3", x.would(10, 2, 0), 1);
        Check.due("three f, two g: 2 and 3", x.would(17, 2, 0), 0);
        Check.due("two f, three g are not there", x.would(23, 2, 0), -1);
        Check.due("a sort that is none", x.would(49, 2, 0), -1);
        Check.due("a sort that is none, and two", x.would(51, 2, 0), -1);
        Check.due("nobody", x.would(0, 2, 0), -1);
        Check.due("below nobody", x.would(-1, 2, 0), -1);
        Check.due("most", x.would(Integer.MAX_VALUE, 2, 0), -1);
        Check.due("least", x.would(Integer.MIN_VALUE, 2, 0), -1);
        Check.due("both the same", x.would(2, 2, 2), -1);
        Check.due("no such a", x.would(2, 3, 0), -1);
        Check.due("no such a below", x.would(2, -1, 0), -1);
        Check.due("no such b", x.would(2, 2, 3), -1);
        Check.due("no such b below", x.would(2, 2, -1), -1);
        Check.due("none at a", x.would(1, 0, 2), -1);
        x.go(0, 2, 0);
        Check.due("more of it than at a", x.would(3, 2, 0), -1);
        Check.due("to one that is there: 4", x.would(1, 2, 0), 1);
        Check.due("from where it has 0 to 3", x.would(1, 0, 2), 1);
        FloatTowns y = Check.with("float a 1 0 0 0;float b 1 0 0 0;float c 1 0 0 0;float d 1 0 0 0;float e 1 0 0 0;"
            + "town t ask - 1;");
        Check.due("one of each of five", y.would(1 + 7 + 49 + 343 + 2401, 1, 0), 1);
        Check.due("of a sixth sort", y.would(16807, 1, 0), -1);
    }

    private static void parties() {
        FloatTowns x = Check.with("float f 3 0 3 0;float g 2 0 1 0;like f f 4;like g f 1;like f g - 3;town t ask 0;town u ask 0;");
        Check.due("no one alone", x.party(1, 0), -1);
        Check.due("two f", x.party(2, 0), 2);
        Check.due("from alone", x.party(2, 1), 2);
        Check.due("to t", x.party(2, 2), 0);
        Check.due("of at most 12", x.party(12, 0), 2);
        Check.due("of at most 0", x.party(0, 0), -1);
        Check.due("of at most 13", x.party(13, 0), -1);
        Check.due("of at most -1", x.party(-1, 0), -1);
        Check.due("no such what", x.party(2, 3), -1);
        Check.due("no such what below", x.party(2, -1), -1);
        Check.due("nothing is changed", x.at(0, 2), 3);
        x.go(0, 2, 1);
        Check.due("one f to the one that is there", x.party(12, 0), 1);
        Check.due("from where it is worth 0", x.party(12, 1), 1);
        Check.due("to alone", x.party(12, 2), 2);
        FloatTowns all = Check.with("float f 6 0 9 0;float g 6 0 9 0;like f g 2;like g f 2;town t ask 0;");
        Check.due("five of each", all.party(12, 0), 5 + 7 * 5);
        Check.due("five of each are ten", all.party(10, 0), 40);
        Check.due("not nine", all.party(9, 0), -1);
        all = Check.with("float f 6 0 11 0;float g 6 0 11 0;like f g 2;like g f 2;town t ask 0;");
        Check.due("six of each", all.party(12, 0), 48);
        Check.due("not eleven", all.party(11, 0), -1);
    }

    /** Of parties of two: the one with the most of sort 0, then of sort 1; of one party the least places. */
    private static void partyOrder() {
        String floats = "float f 2 0 1 0;float g 2 0 1 0;float h 2 0 1 0;";
        FloatTowns x = Check.with(floats + "like f g 2;like g f 2;like g g 2;like h h 2;town t ask 0;town u ask 0;");
        Check.due("f and g ahead of two g", x.party(2, 0), 8);
        x = Check.with(floats + "like f h 2;like h f 2;like g g 2;like h h 2;town t ask 0;town u ask 0;");
        Check.due("f and h ahead of two g", x.party(2, 0), 50);
        x = Check.with(floats + "like g g 2;like h h 2;like h g 2;like g h 2;town t ask 0;town u ask 0;");
        Check.due("two g ahead of g and h", x.party(2, 0), 14);
        x = Check.with(floats + "like h h 2;town t ask 0;town u ask 0;");
        Check.due("two h", x.party(2, 0), 98);
        Check.due("to the first town", x.party(2, 2), 0);
        x.extra(0, 1);
        Check.due("to the second town", x.party(2, 2), 1);
        x = Check.with("float f 4 0 1 0;like f f 2;town t ask 3;town u ask 2;");
        for (int i = 0; i < 2; i++) {
            x.go(0, 2, 0);
        }
        Check.due("one leaves t", x.party(2, 0), 1);
        Check.due("from t", x.party(2, 1), 0);
        Check.due("to alone", x.party(2, 2), 2);
    }

    private static void goings() {
        FloatTowns x = Check.with("good a 0;float f 3 0 1 0 wants a 9;town t gives a ask many * 2;");
        Check.due("below 0", x.goings(-1), -1);
        Check.due("above 300", x.goings(301), -1);
        Check.due("none", x.goings(0), 0);
        Check.due("nothing to undo", x.count(7), 0);
        Check.due("one", x.goings(1), 1);
        Check.due("one is there", x.at(0, 0), 1);
        Check.due("two, and it stands", x.goings(300), 2);
        Check.due("three are there", x.at(0, 0), 3);
        Check.due("it stands", x.goings(300), 0);
        Check.due("two steps back", x.count(7), 2);
        Check.due("the two at once", x.undo(), 1);
        Check.due("one is there", x.at(0, 0), 1);
    }

    /** In a ring, one sort runs after the other; a ring's goings go on as long as they are asked for. */
    private static void rings() {
        FloatTowns x = Check.with("float f 1 0 0 0;float g 1 0 0 0;like f g 5;like g f - 5;town t ask - 2;town u ask - 2;");
        Check.due("f to t, g to u, f to u, g to t, f to t, ..", x.ring(0), 2);
        Check.due("first behind 2", x.ring(1), 2);
        Check.due("period 4", x.ring(2), 4);
        Check.due("nothing is changed", x.at(0, 2), 1);
        Check.due("nothing to undo", x.count(7), 0);
        Check.due("a ring goes on", x.goings(300), 300);
        Check.due("at once in the ring", x.ring(1), 0);
        Check.due("period 4", x.ring(2), 4);
        Check.due("as behind 4", x.at(0, 0) * 2 + x.at(1, 0), 1);
        Check.due("ring(3)", x.ring(3), -1);
        Check.due("ring(-1)", x.ring(-1), -1);
        x.bind(0, true);
        x.bind(1, true);
        Check.due("bound, it stands", x.ring(0), 1);
        Check.due("behind none", x.ring(1), 0);
        Check.due("no period", x.ring(2), -1);
        FloatTowns y = Check.with("good a 0;float f 3 0 1 0 wants a 9;town t gives a ask many * 2;");
        Check.due("stands", y.ring(0), 1);
        Check.due("behind three", y.ring(1), 3);
        y.go(0, 1, 0);
        Check.due("behind two", y.ring(1), 2);
    }

    /** Empties by the least that makes the last one go; 0 if nobody will be there anyhow. */
    private static void empties() {
        FloatTowns x = Check.with("good a 0;float f 2 0 1 2 wants a 9;town t gives a ask 0;town u ask 99;");
        Check.due("none comes by 6 more", x.empties(0), 6);
        Check.due("empty anyhow", x.empties(1), 0);
        Check.due("no such town", x.empties(2), -1);
        Check.due("no such town below", x.empties(-1), -1);
        x.go(0, 2, 0);
        Check.due("one leaves by 11 more", x.empties(0), 11);
        Check.due("nothing is changed", x.town(0, 4), 0);
        x.bind(0, true);
        Check.due("none leaves a bound town", x.empties(0), 41);
        x.bind(0, false);
        x.extra(0, -29);
        Check.due("40 more", x.empties(0), 40);
        x.extra(0, -30);
        Check.due("41 more", x.empties(0), 41);
        x.extra(0, 999);
        Check.due("beyond what extra may be", x.empties(0), 0);
        FloatTowns ring = Check.with("float f 1 0 0 0;float g 1 0 0 0;like f g 5;like g f - 5;town t ask - 2;town u ask - 2;");
        Check.due("rings until f alone goes, to u, by 2 more", ring.empties(0), 2);
        Check.due("and of u, by 2 more", ring.empties(1), 2);
    }
}
