/** Promises 2 (feed), 3 (text), 4 (fault) and 5 (named). */
public final class TextTest {
    public static void main(String[] args) {
        feeds();
        reads();
        keepsOnFault();
        forgets();
        names();
        tokens();
        goods();
        floats();
        likings();
        towns();
        rules();
        knots();
        grounds();
        storms();
        Check.end("TextTest");
    }

    private static void feeds() {
        FloatTowns x = new FloatTowns();
        for (int i = 1; i <= 40; i++) {
            Check.due("feed " + i, x.feed(0x3b202020, -1, 0, 1, 0x20202020), 20 * i);
        }
        Check.due("feed beyond 800", x.feed(0, 0, 0, 0, 0), -1);
        Check.due("text beyond 800", x.text(801), -2);
        Check.due("text below 0", x.text(-1), -2);
        Check.due("fault behind -2", x.fault(0), 0);
        Check.due("text of all 800", x.text(800), -1);
        Check.due("fault(0)", x.fault(0), 1);
        Check.due("fault(1)", x.fault(1), 0);
        Check.due("the tape is empty behind text", x.text(1), -2);
        Check.due("the fault stays behind -2", x.fault(0), 1);
        Check.due("feed begins anew", x.feed(0, 0, 0, 0, 0), 20);
        x = new FloatTowns();
        // "goodabc 12;" by its bytes, the highest of each number first
        x.feed(('g' << 24) | ('o' << 16) | ('o' << 8) | 'd', (' ' << 24) | ('a' << 16) | ('b' << 8) | 'c',
            (' ' << 24) | ('1' << 16) | ('2' << 8) | ';', 0x20202020, 0x20202020);
        Check.due("bytes in their order", x.text(12), 1);
        Check.due("a name by bytes", x.named(0, Check.letters("abc")), 0);
    }

    private static void reads() {
        FloatTowns x = new FloatTowns();
        Check.due("an empty text", Check.tell(x, ""), 0);
        Check.due("blanks alone", Check.tell(x, " \n \n"), 0);
        Check.due("two lines", Check.tell(x, "good a 1;\ngood b 2 ;"), 2);
        Check.due("goods", x.count(0), 2);
        Check.due("no blanks where none must be", Check.tell(x, "good a1;float f1 2 3 4wants a5;"), 2);
        Check.due("wants", x.wants(0, 0), 5);
        Check.due("zeros ahead", Check.tell(x, "good a 0000000000000000000000999;"), 1);
        Check.feed(x, "good a 1;good b 2;");
        Check.due("only the first bytes count", x.text(9), 1);
        Check.due("goods of them", x.count(0), 1);
        Check.due("the rest is gone", x.text(1), -2);
    }

    /** A fault changes nothing but the fault and the tape; a sound text begins all anew. */
    private static void keepsOnFault() {
        String town = "good g 4;float f 2 1 9 0 wants g 9;town t gives g ask 1;town u bound ask 0;storm 9;";
        FloatTowns x = Check.with(town);
        x.go(0, 2, 0);
        x.extra(0, 7);
        x.keep();
        x.months(5, 3);
        java.util.List<Long> before = Check.answers(x);
        Check.due("a fault", Check.tell(x, "good g 4;float f 2 1 9 0 wants h 9;"), -1);
        Check.due("fault(0)", x.fault(0), 4);
        Check.due("fault(1)", x.fault(1), 31);
        Check.due("fault(2)", x.fault(2), -1);
        Check.due("fault(-1)", x.fault(-1), -1);
        Check.due("all else stays", before.equals(Check.answers(x)), true);
        Check.due("the name stays", x.named(0, Check.letters("g")), 0);
        Check.due("the image stays", x.back(), 0);
        x.extra(0, 7);
        x.months(5, 3);
        Check.due("a text", Check.tell(x, town), 5);
        Check.due("no fault", x.fault(0), 0);
        Check.due("no place", x.fault(1), -1);
        Check.due("all are alone", x.at(0, 2), 2);
        Check.due("no extra", x.town(0, 4), 0);
        Check.due("bound as told", x.town(1, 3), 1);
        Check.due("no months", x.count(6), 0);
        Check.due("nothing to undo", x.undo(), -1);
        Check.due("no image", x.back(), -1);
        x.months(0, 1);
        Check.due("tied by the storm", x.tied(), 12);
        Check.tell(x, town);
        Check.due("nothing tied", x.tied(), 0);
    }

    /** Nothing of a text stays for a later one, sound or not, be it the next or the one behind that. */
    private static void forgets() {
        String rich = "good a 9;good b 8;float f 3 9 9 9 wants a 99 wants b 9;float g 3 9 9 9 wants a 9;like f f 9;"
            + "like g f - 9;town t gives a gives b votes bound ask 9 * members;town u gives b votes bound ask - many;"
            + "ground t 6 63 63 63 63 63 63;ground u 6 1;storm 2;";
        String plain = "good c 1;good d 1;float h 2 0 1 0;float i 2 0 1 0;town v gives c ask 1;town w ask cost;";
        String[] unsound = {rich + "?", "town t ask - ?;", "town t ask ((((((1 + - ?", "town t ask 1 + 2 * - (3 ?"};
        java.util.List<Long> due = Check.answers(Check.with(plain));
        for (String bad : unsound) {
            FloatTowns x = Check.with(rich);
            x.go(0, 2, 0);
            for (int i = 0; i < 3; i++) {
                Check.tell(x, bad);
                Check.due("a fault", x.fault(0), 1);
                Check.due("a text behind " + bad, Check.tell(x, plain), 6);
                Check.due("the same answers", due.equals(Check.answers(x)), true);
                Check.due("no ground", x.out(0, 0, 0), -1);
                Check.due("no liking", x.likes(0, 0), 0);
                Check.due("no want", x.wants(0, 0), 0);
                Check.due("no name", x.named(0, Check.letters("a")), -1);
                Check.due("a text again", Check.tell(x, i == 0 ? rich : plain), i == 0 ? 11 : 6);
            }
            Check.due("like anew", Check.tell(x, rich), 11);
        }
        FloatTowns x = new FloatTowns();
        StringBuilder long40 = new StringBuilder("float f 1 0 0 0;town t ask 1");
        for (int i = 0; i < 20; i++) {
            long40.append("+1");
        }
        for (int i = 0; i < 9; i++) {
            Check.due("a rule of 41 knots, again and again", Check.tell(x, long40 + ";"), 2);
            x.go(0, 1, 0);
            Check.due("is what it is", x.asked(0, 0), 21 * 27720);
        }
        for (int i = 0; i < 3; i++) {
            Check.tell(x, "town t ask 1;ground t 6 63 63 63;");
            Check.due("a ground", x.out(0, 1, 1), 1);
            Check.tell(x, "town t ask 1;ground t 6;");
            Check.due("without rows there is none, whatever was ahead", x.out(0, 1, 1), -1);
            if (i == 1) {
                Check.tell(x, "");
            }
        }
        Check.feed(x, "good a 1;");
        Check.due("good is cut to goo", x.text(3), -1);
        Check.due("at its place", x.fault(1), 0);
        Check.feed(x, "good a 1;good b 1;");
        Check.due("nothing behind n", x.text(9), 1);
    }

    private static void names() {
        FloatTowns x = Check.with("good a 1;good zzzzzz 2;float a 1 0 0 0;float b 1 0 0 0;town b ask 1;town ab ask 1;");
        Check.due("good a", x.named(0, 1 << 25), 0);
        Check.due("good zzzzzz", x.named(0, Check.letters("zzzzzz")), 1);
        Check.due("good b", x.named(0, Check.letters("b")), -1);
        Check.due("sort a", x.named(1, Check.letters("a")), 0);
        Check.due("sort b", x.named(1, Check.letters("b")), 1);
        Check.due("town b", x.named(2, Check.letters("b")), 0);
        Check.due("town ab", x.named(2, (1 << 25) | (2 << 20)), 1);
        Check.due("town a", x.named(2, Check.letters("a")), -1);
        Check.due("no letters", x.named(0, 0), -1);
        Check.due("letters not at the front", x.named(0, 1), -1);
        Check.due("letters below 0", x.named(0, -1), -1);
        Check.due("letters beyond six", x.named(0, (1 << 25) | (1 << 30)), -1);
        Check.due("kind -1", x.named(-1, 1 << 25), -1);
        Check.due("kind 3", x.named(3, 1 << 25), -1);
    }

    private static void tokens() {
        Check.fault("?", 1, 0);
        Check.fault("  x", 1, 2);
        Check.fault(";", 1, 0);
        Check.fault("Good a 1;", 1, 0);
        Check.fault("good a 1;\tgood b 1;", 1, 9);
        Check.fault("good a 1;\rgood b 1;", 1, 9);
        Check.fault("good abcdef 1;", 0, -1);
        Check.fault("good abcdefg 1;", 1, 5);
        Check.fault("good a_b 1;", 1, 6);
        Check.fault("good a 1\u00e9;", 1, 8);
        Check.fault("good a 1;;", 1, 9);
        Check.fault("good a 1", 1, 8);
        Check.fault("good a 1   ", 1, 11);
        Check.fault("good", 1, 4);
        Check.fault("5 good", 1, 0);
        Check.fault("gooda 1;", 1, 0);
        Check.fault("good a 1,good b 1;", 1, 8);
        Check.fault("town t ask = 1;", 1, 11);
        for (String word : ("good float wants like town gives votes bound ask ground storm members many cost pays own")
            .split(" ")) {
            Check.fault("good " + word + " 1;", 1, 5);
            Check.fault("good " + word + "s 1;", word.length() > 5 ? 1 : 0, word.length() > 5 ? 5 : -1);
        }
    }

    private static void goods() {
        Check.fault("good a 0;good b 999;", 0, -1);
        Check.fault("good a 1000;", 2, 7);
        Check.fault("good a - 1;", 1, 7);
        Check.fault("good a 99999999999999999999999999;", 2, 7);
        Check.fault("good a 4294967296;", 2, 7);
        Check.fault("good a;", 1, 6);
        Check.fault("good 1;", 1, 5);
        Check.fault("good a 1;good a 2;", 3, 14);
        Check.fault("good a 1;good b 1;good c 1;good d 1;good e 1;", 0, -1);
        Check.fault("good a 1;good b 1;good c 1;good d 1;good e 1;good a ?", 2, 45);
    }

    private static void floats() {
        Check.fault("float a 1 0 0 0;float b 6 99 999 99;", 0, -1);
        Check.fault("float a 0 0 0 0;", 2, 8);
        Check.fault("float a 7 0 0 0;", 2, 8);
        Check.fault("float a 1 100 0 0;", 2, 10);
        Check.fault("float a 1 0 1000 0;", 2, 12);
        Check.fault("float a 1 0 0 100;", 2, 14);
        Check.fault("float a 1 0 0;", 1, 13);
        Check.fault("float a 1 0 0 0 0;", 1, 16);
        Check.fault("float a 6 0 0 0;float b 6 0 0 0;float c 1 0 0 0;", 2, 40);
        Check.fault("float a 6 0 0 0;float b 4 0 0 0;float c 3 0 0 0;", 2, 40);
        Check.fault("float a 6 0 0 0;float b 4 0 0 0;float c 2 0 0 0;", 0, -1);
        Check.fault("float a 1 0 0 0;float a 1 0 0 0;", 3, 22);
        String five = "float a 1 0 0 0;float b 1 0 0 0;float c 1 0 0 0;float d 1 0 0 0;float e 1 0 0 0;";
        Check.fault(five, 0, -1);
        Check.fault(five + "float ;", 2, 80);
        Check.fault("good g 1;float a 1 0 0 0 wants g 99;", 0, -1);
        Check.fault("good g 1;float a 1 0 0 0 wants g 100;", 2, 33);
        Check.fault("good g 1;float a 1 0 0 0 wants g;", 1, 32);
        Check.fault("good g 1;float a 1 0 0 0 wants h 1;", 4, 31);
        Check.fault("good g 1;float a 1 0 0 0 wants a 1;", 4, 31);
        Check.fault("good g 1;float a 1 0 0 0 wants 7 1;", 1, 31);
        Check.fault("good g 1;float a 1 0 0 0 wants g 1 wants g 2;", 3, 41);
        Check.fault("good g 1;float a 1 0 0 0 wants g 1;float b 1 0 0 0 wants g 2;", 0, -1);
        Check.fault("float a 1 0 0 0 wants g 1;good g 1;", 4, 22);
    }

    private static void likings() {
        String two = "float a 1 0 0 0;float b 1 0 0 0;";
        Check.fault(two + "like a b 20;like b a - 20;like a a 0;like b b - 0;", 0, -1);
        Check.fault(two + "like a b 21;", 2, 41);
        Check.fault(two + "like a b - 21;", 2, 43);
        Check.fault(two + "like a b - - 1;", 1, 43);
        Check.fault(two + "like a b + 1;", 1, 41);
        Check.fault(two + "like a b;", 1, 40);
        Check.fault(two + "like a 1;", 1, 39);
        Check.fault(two + "like c b 1;", 4, 37);
        Check.fault(two + "like a c 1;", 4, 39);
        Check.fault(two + "like a own 1;", 1, 39);
        Check.fault(two + "like a b 1;like a b 2;", 3, 50);
        Check.fault(two + "like a b 1;like b a 2;", 0, -1);
    }

    private static void towns() {
        Check.fault("good g 1;town t gives g votes bound ask 1;", 0, -1);
        Check.fault("good g 1;town t bound votes ask 1;", 1, 22);
        Check.fault("good g 1;town t votes gives g ask 1;", 1, 22);
        Check.fault("good g 1;town t votes votes ask 1;", 1, 22);
        Check.fault("good g 1;town t gives g gives g ask 1;", 3, 30);
        Check.fault("good g 1;town t gives h ask 1;", 4, 22);
        Check.fault("good g 1;town t gives ask 1;", 1, 22);
        Check.fault("good g 1;town t gives g;", 1, 23);
        Check.fault("town t ask 1;town t ask 1;", 3, 18);
        Check.fault("town t;", 1, 6);
        String four = "town a ask 1;town b ask 1;town c ask 1;town d ask 1;";
        Check.fault(four, 0, -1);
        Check.fault(four + "town a", 2, 52);
    }

    private static void rules() {
        Check.fault("town t ask 0;town u ask 999;", 0, -1);
        Check.fault("town t ask 1000;", 2, 11);
        Check.fault("town t ask ;", 1, 11);
        Check.fault("town t ask 1 2;", 1, 13);
        Check.fault("town t ask 1 +;", 1, 14);
        Check.fault("town t ask + 1;", 1, 11);
        Check.fault("town t ask 1 * / 2;", 1, 15);
        Check.fault("town t ask 1 - - 2;", 0, -1);
        Check.fault("town t ask - - - 2;", 0, -1);
        Check.fault("town t ask (1;", 1, 13);
        Check.fault("town t ask 1);", 1, 12);
        Check.fault("town t ask ();", 1, 12);
        Check.fault("town t ask (1)(2);", 1, 14);
        Check.fault("town t ask (1", 1, 13);
        Check.fault("town t ask members+many*cost/pays-own;", 0, -1);
        Check.fault("town t ask t;", 1, 11);
        Check.fault("town t ask storm;", 1, 11);
        Check.fault("town t ask members many;", 1, 19);
        Check.fault("town t ask ((((((((1))))))));", 0, -1);
        Check.fault("town t ask (((((((((1)))))))));", 2, 19);
        Check.fault("town t ask ((((((((1))))))))+(1);", 0, -1);
        Check.fault("town t ask (((((((((", 2, 19);
    }

    private static void knots() {
        FloatTowns x = Check.with("town t ask - ( 1 + 2 ) * many;town u ask ((members));");
        Check.due("knots without brackets", x.count(4), 7);
        StringBuilder text = new StringBuilder("town t ask 1");
        for (int i = 0; i < 31; i++) {
            text.append("+1");
        }
        String most = text + ";town u ask 1";
        Check.due("63 and 1 knots", Check.with(most + ";").count(4), 64);
        Check.fault(most + "-1;", 2, most.length());
        Check.fault(text + "+-1;", 2, text.length() + 1);
        Check.fault(text + "+1;", 2, text.length() + 1);
        Check.fault(text + ";town u ask -1;", 2, text.length() + 13);
        Check.fault(most + ";town v ask members;", 2, most.length() + 12);
        Check.fault(most + ";town v ask (1);", 2, most.length() + 13);
        Check.fault(most + ";town v ask ;", 1, most.length() + 12);
        Check.fault(most + ";town v ask x;", 1, most.length() + 12);
        StringBuilder minus = new StringBuilder("town t ask ");
        for (int i = 0; i < 64; i++) {
            minus.append('-');
        }
        Check.fault(minus + "1;", 2, 75);
        Check.fault(minus + "-1;", 2, 75);
        Check.fault(minus.substring(0, 74) + "1;", 0, -1);
    }

    private static void grounds() {
        String town = "town t ask 1;";
        Check.fault(town + "ground t 1;", 0, -1);
        Check.fault(town + "ground t 6 63 0 63 0 63 0;", 0, -1);
        Check.fault(town + "ground t 0;", 2, 22);
        Check.fault(town + "ground t 7;", 2, 22);
        Check.fault(town + "ground t;", 1, 21);
        Check.fault(town + "ground t 6 64;", 2, 24);
        Check.fault(town + "ground t 1 2;", 2, 24);
        Check.fault(town + "ground t 1 1 1 1 1 1 1 1;", 2, 36);
        Check.fault(town + "ground t 1 1 1 1 1 1 1 9;", 2, 36);
        Check.fault(town + "ground t 1 - 1;", 1, 24);
        Check.fault(town + "ground u 1;", 4, 20);
        Check.fault("ground t 1;" + town, 4, 7);
        Check.fault(town + "ground t 1;ground t 1;", 3, 31);
        Check.fault(town + "ground t 1 1;ground t 1;", 3, 33);
        Check.fault(town + "ground 1 1;", 1, 20);
    }

    private static void storms() {
        Check.fault("storm 2;", 0, -1);
        Check.fault("storm 99;", 0, -1);
        Check.fault("storm 0;", 2, 6);
        Check.fault("storm 1;", 2, 6);
        Check.fault("storm 100;", 2, 6);
        Check.fault("storm;", 1, 5);
        Check.fault("storm 2;storm 2;", 3, 8);
        Check.fault("storm 2;storm", 3, 8);
    }
}
