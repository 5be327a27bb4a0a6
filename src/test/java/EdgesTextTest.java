import java.math.BigInteger;
import java.util.ArrayList;
import java.util.List;

/**
 * The document's section 1 (the text and its faults) and promises 1 to 5: each sentence that names an edge, and
 * behind it what it asks on both sides of the edge. A mark (^) in a text is where its fault must be.
 */
public final class EdgesTextTest {
    private static final String LANGUAGE =
        "good float wants like town gives votes bound ask ground storm members many cost pays own";
    private static final String ALL_LINES = "good g 7;good h 8;float f 2 1 2 3 wants g 4 wants h 5;float e 1 0 0 0;"
        + "like f e - 6;like e f 9;town t gives g gives h votes bound ask - ( members + many ) * 3 / cost - pays + own;"
        + "town u ask 1;ground t 3 1 2 7;ground u 6;storm 9;";

    public static void main(String[] args) {
        newObject();
        feeds();
        readsTape();
        refusedTexts();
        keepsAllElse();
        beginsAnew();
        faultsTold();
        names();
        words();
        blanks();
        lines();
        goods();
        sorts();
        wants();
        likings();
        towns();
        grounds();
        storms();
        rules();
        firstFault();
        noTokens();
        cannotStand();
        leftOut();
        moreMustCome();
        tooMuch();
        toldAlready();
        notTold();
        Check.end("EdgesTextTest");
    }

    // ---- the calls ----

    private static void newObject() {
        Check.sentence("A TEXT without LINES; an empty TAPE.");
        FloatTowns x = new FloatTowns();
        Check.due("text(1)", x.text(1), -2);
        for (int what = 0; what <= 7; what++) {
            Check.due("count(" + what + ")", x.count(what), 0);
        }
        for (int what = 0; what <= 2; what++) {
            Check.due("named", x.named(what, Check.letters("a")), -1);
        }
        Check.due("no sort is alone", x.at(0, 0), -1);
        Check.due("no town", x.town(0, 0), -1);
        Check.due("nothing tied", x.tied(), 0);
        Check.due("no fault", x.fault(0), 0);
        Check.due("no place of a fault", x.fault(1), -1);
        Check.due("nothing to undo", x.undo(), -1);
        Check.due("no image", x.back(), -1);
        Check.due("one parting, of nobody", x.all(0), 1);
        Check.due("it holds", x.all(1), 1);
        Check.due("its total", x.total(), 0);
        Check.due("the empty text", x.text(0), 0);
    }

    private static void feeds() {
        Check.sentence("Twenty bytes come behind the TAPE, four of each number, the highest first: how many it has");
        FloatTowns x = new FloatTowns();
        // a byte of 255 spoils none of its neighbours: "good ab 12;" behind it stays as it is
        Check.due("feed", x.feed(0x20202020, 0x202020ff, 0x676f6f64, 0x20616220, 0x31323b20), 20);
        Check.due("all are read", x.text(20), -1);
        Check.due("the fault's place is the byte", x.fault(1), 7);
        Check.due("feed", x.feed(0x20202020, 0x20202020, 0x676f6f64, 0x20616220, 0x31323b20), 20);
        Check.due("a second feed", x.feed(-1, -1, -1, -1, -1), 40);
        Check.due("the text of the first", x.text(20), 1);
        Check.due("a name by its bytes", x.named(0, Check.letters("ab")), 0);
        for (int first = 0; first < 20; first++) {
            int[] four = {0x20202020, 0x20202020, 0x20202020, 0x20202020, 0x20202020};
            four[first / 4] ^= 0x80 << (8 * (3 - first % 4));
            x.feed(four[0], four[1], four[2], four[3], four[4]);
            x.text(20);
            Check.due("the byte's place", x.fault(1), first);
        }

        Check.sentence("NONE, and none come, if it would have more than 800.");
        x = new FloatTowns();
        Check.feed(x, "good a 1;");
        for (int i = 2; i <= 40; i++) {
            Check.due("feed " + i, x.feed(0x20202020, 0x20202020, 0x20202020, 0x20202020, 0x20202020), 20 * i);
        }
        Check.due("a 41st feed", x.feed(0x3f3f3f3f, 0x3f3f3f3f, 0x3f3f3f3f, 0x3f3f3f3f, 0x3f3f3f3f), -1);
        Check.due("and again", x.feed(0x3f3f3f3f, 0x3f3f3f3f, 0x3f3f3f3f, 0x3f3f3f3f, 0x3f3f3f3f), -1);
        Check.due("there are 800, no more", x.text(801), -2);
        Check.due("no more", x.text(820), -2);
        Check.due("all 800, and none of the 41st", x.text(800), 1);
        Check.due("room again", x.feed(0, 0, 0, 0, 0), 20);
    }

    private static void readsTape() {
        Check.sentence("The TAPE's first n bytes (it is empty then) are the TEXT");
        FloatTowns x = new FloatTowns();
        Check.feed(x, "good a 1;good b 2;??");
        Check.due("the first 9", x.text(9), 1);
        Check.due("of them one good", x.count(0), 1);
        Check.due("the tape is empty then", x.text(1), -2);
        Check.due("feed begins anew", x.feed(0x20202020, 0x20202020, 0x20202020, 0x20202020, 0x20202020), 20);
        Check.due("none of them", x.text(0), 0);
        Check.due("the empty text has no good", x.count(0), 0);
        Check.due("and the tape is empty", x.text(1), -2);
        Check.feed(x, "good a 1;good b 2;??");
        Check.due("all 18 of two lines", x.text(18), 2);
        Check.feed(x, "good a 1;good b 2;??");
        Check.due("a fault", x.text(17), -1);
        Check.due("empty behind a fault, too", x.text(1), -2);
        Check.due("feed begins anew", x.feed(0, 0, 0, 0, 0), 20);
        x = new FloatTowns();
        Check.feed(x, "good a 12345;       ");
        Check.due("a number cut by n", x.text(10), -1);
        Check.due("must be ended", x.fault(1), 10);
        Check.feed(x, "good a 12345;       ");
        Check.due("a byte behind n counts not", x.text(8), -1);
        Check.due("its fault is that more must come", x.fault(0), 1);
        x = new FloatTowns();
        StringBuilder full = new StringBuilder("good a 1;");
        while (full.length() < 798) {
            full.append(' ');
        }
        Check.due("a text of 800 to its last byte", Check.tell(x, full + "?;"), -1);
        Check.due("the last but one", x.fault(1), 798);
        Check.due("the last one", Check.tell(x, full + " ?"), -1);
        Check.due("its place", x.fault(1), 799);
    }

    private static void refusedTexts() {
        Check.sentence("-2, and the TAPE stays: there are not so many, n is below 0.");
        FloatTowns x = Check.with("good a 1;good b 1;");
        Check.feed(x, "good c 1;           ");
        for (int n : new int[] {21, 22, 800, 801, Integer.MAX_VALUE, -1, -2, -20, Integer.MIN_VALUE}) {
            Check.due("text(" + n + ")", x.text(n), -2);
            Check.due("the former text stays", x.count(0), 2);
        }
        Check.due("the tape stays, to its last byte", x.text(20), 1);
        Check.due("the new text", x.named(0, Check.letters("c")), 0);
        Check.due("of an empty tape", x.text(1), -2);
        Check.due("below", x.text(-1), -2);
    }

    private static void keepsAllElse() {
        Check.sentence("NONE with a FAULT, all else stays");
        String text = "good g 4;float f 2 1 9 0 wants g 9;like f f 3;town t gives g ask 1;town u bound ask 0;"
            + "ground t 2 3;storm 9;";
        for (String bad : new String[] {"?", "good", "good g 4;float f 3 1 9 0 wants h 1;", text + "?",
            "storm 2;town t bound ask 5;ground t 1 1 1 1 1 1 1 1;", "town a ask (1;"}) {
            FloatTowns x = Check.with(text);
            x.go(0, 2, 0);
            x.extra(1, 7);
            x.bind(1, false);
            x.keep();
            x.months(0, 3);
            x.bind(0, true);
            List<Long> ahead = Check.answers(x);
            int held = x.all(1);
            Check.due("a fault of " + bad, Check.tell(x, bad), -1);
            Check.due("the same answers", ahead.equals(Check.answers(x)), true);
            Check.due("the same that hold", x.all(1), held);
            Check.due("the ground stays", x.out(0, 1, 0), 0);
            Check.due("the liking stays", x.likes(0, 0), 3);
            Check.due("the name stays", x.named(2, Check.letters("u")), 1);
            Check.due("what can be undone stays", x.count(7), 5);
            Check.due("and is undone", x.undo(), 4);
            Check.due("to a loose town", x.town(0, 3), 0);
            Check.due("the months stay", x.count(6), 3);
            Check.due("what is tied stays", x.tied() > 0, true);
            Check.due("the image stays", x.back(), 0);
            Check.due("as it was kept", x.town(1, 4), 7);
        }
    }

    private static void beginsAnew() {
        Check.sentence("(all ALONE, EXTRA 0, nothing TIED, no MONTHS, IMAGE, nothing to undo then)");
        String text = "float f 3 0 9 0;town t ask 0;town u bound ask 0;storm 2;";
        FloatTowns x = Check.with(text);
        x.go(0, 2, 0);
        x.go(0, 2, 1);
        x.extra(0, 5);
        x.bind(0, true);
        x.bind(1, false);
        x.months(0, 1);
        x.keep();
        x.months(0, 1);
        Check.due("tied ahead", x.tied(), 12);
        Check.due("the text again", Check.tell(x, text), 4);
        Check.due("all alone", x.at(0, 2), 3);
        Check.due("none in t", x.at(0, 0), 0);
        Check.due("none in u", x.at(0, 1), 0);
        Check.due("extra 0", x.town(0, 4), 0);
        Check.due("loose as told", x.town(0, 3), 0);
        Check.due("bound as told", x.town(1, 3), 1);
        Check.due("nothing tied", x.tied(), 0);
        Check.due("no months", x.count(6), 0);
        Check.due("nothing to undo", x.count(7), 0);
        Check.due("undo", x.undo(), -1);
        Check.due("no image", x.back(), -1);
        Check.due("the one that would go goes at once", x.months(1, 1), 1);
        Check.due("an empty text begins anew, too", x.text(0), 0);
        Check.due("no sorts", x.count(1), 0);
        Check.due("no months", x.count(6), 0);
        Check.due("nothing to undo", x.undo(), -1);
        Check.due("no storm", x.count(5), 0);

        Check.sentence("are the TEXT");
        String plain = "good a 1;float a 2 1 3 0;float b 1 0 0 0;town a gives a ask 2;town b ask 3;ground a 3;";
        List<Long> due = Check.answers(Check.with(plain));
        String[] others = {ALL_LINES, plain, "town t ask - ?", "town t ask ((((((1 + - ?", plain + "?"};
        for (int i = 0; i < 10; i++) {
            // each is read where each of the others was ahead
            Check.tell(x, others[i % 5]);
            Check.tell(x, plain);
            Check.due("nothing of the others stays", due.equals(Check.answers(x)), true);
            Check.due("no want", x.wants(0, 0), 0);
            Check.due("no liking", x.likes(0, 1) + x.likes(1, 0), 0);
            Check.due("no ground", x.out(0, 0, 0), -1);
            Check.due("what it gives", x.town(1, 0), 0);
            Check.due("no vote", x.town(0, 2), 0);
            Check.due("not bound", x.town(0, 3), 0);
            x.go(0, 2, 0);
            Check.due("its rule", x.asked(0, 0), 2 * 27720);
            Check.tell(x, ALL_LINES);
            Check.due("all lines again", x.fault(0), 0);
        }
        x = new FloatTowns();
        for (int i = 0; i < 40; i++) {
            Check.due("brackets that stay open", Check.tell(x, "town t ask ((((((((1"), -1);
        }
        Check.tell(x, "float f 1 0 0 0;town t ask ((1 + 2 * 3));");
        x.go(0, 1, 0);
        Check.due("are none of a later rule", x.asked(0, 0), 7 * 27720);
    }

    private static void faultsTold() {
        Check.sentence("Of the latest text() that was not -2, what 0: its FAULT (0), 1: its place (NONE without).");
        FloatTowns x = new FloatTowns();
        Check.due("ahead of all", x.fault(0), 0);
        Check.due("no place", x.fault(1), -1);
        x.text(1);
        Check.due("behind -2 alone", x.fault(0), 0);
        Check.due("no place", x.fault(1), -1);
        Check.tell(x, "good a 1000;");
        Check.due("a fault", x.fault(0), 2);
        Check.due("its place", x.fault(1), 7);
        x.text(1);
        x.text(-1);
        Check.due("stays behind -2", x.fault(0), 2);
        Check.due("its place, too", x.fault(1), 7);
        Check.tell(x, "storm");
        Check.due("of the latest", x.fault(0), 1);
        Check.due("its place", x.fault(1), 5);
        Check.tell(x, "storm 2;");
        Check.due("none", x.fault(0), 0);
        Check.due("no place", x.fault(1), -1);
        x.text(1);
        Check.due("none behind -2", x.fault(0), 0);
        Check.tell(x, "?");
        Check.due("a fault at place 0", x.fault(1), 0);

        Check.sentence("NONE for another what.");
        for (int what : new int[] {2, 3, -1, Integer.MAX_VALUE, Integer.MIN_VALUE}) {
            Check.due("fault(" + what + ")", x.fault(what), -1);
        }
    }

    private static void names() {
        Check.sentence("by its letters, 5 bits each (a is 1; the first one highest of six, 0 behind the last one)");
        FloatTowns x = Check.with("good a 1;good zzzzzz 2;good az 3;float za 1 0 0 0;float a 1 0 0 0;town zzzzz ask 1;"
            + "town a ask 1;");
        Check.due("a", x.named(0, 1 << 25), 0);
        Check.due("zzzzzz", x.named(0, 26 * 0x2108421), 1);
        Check.due("az", x.named(0, (1 << 25) + (26 << 20)), 2);
        Check.due("sort za", x.named(1, (26 << 25) + (1 << 20)), 0);
        Check.due("sort a", x.named(1, 1 << 25), 1);
        Check.due("town zzzzz", x.named(2, 26 * 0x2108420), 0);
        Check.due("town a", x.named(2, 1 << 25), 1);

        Check.sentence("there is none such.");
        Check.due("good za", x.named(0, (26 << 25) + (1 << 20)), -1);
        Check.due("sort az", x.named(1, (1 << 25) + (26 << 20)), -1);
        Check.due("a begins a name, no more", x.named(1, 26 << 25), -1);
        Check.due("no letters", x.named(0, 0), -1);
        Check.due("letters behind nothing", x.named(0, 1), -1);
        Check.due("beyond six letters", x.named(0, (1 << 25) | (1 << 30)), -1);
        Check.due("below 0", x.named(0, (1 << 25) | (1 << 31)), -1);
        for (int what : new int[] {3, 4, -1, Integer.MAX_VALUE, Integer.MIN_VALUE}) {
            Check.due("kind " + what, x.named(what, 1 << 25), -1);
        }
        Check.tell(x, "good b 1;");
        Check.due("none of a former text", x.named(0, 1 << 25), -1);
        Check.due("no sort now", x.named(1, 1 << 25), -1);
    }

    // ---- the language ----

    private static void words() {
        Check.sentence("one of 1 .. 6 letters, none of those of the language");
        String[] places = {"good ^W 1;", "float ^W 1 0 0 0;", "good g 1;float f 1 0 0 0 wants ^W 1;", "like ^W f 1;",
            "float f 1 0 0 0;like f ^W 1;", "town ^W ask 1;", "town t gives ^W ask 1;", "ground ^W 1;"};
        for (String place : places) {
            for (String word : LANGUAGE.split(" ")) {
                Check.faultAt(1, place.replace("W", word));
            }
            Check.faultAt(1, place.replace("W", "abcdefg"));
            Check.faultAt(1, place.replace("W", "Abc"));
            Check.faultAt(1, place.replace("W", "7"));
        }
        Check.sound("good a 1;float z 1 0 0 0;town m ask 1;");
        Check.sound("good abcdef 1;float uvwxyz 1 0 0 0 wants abcdef 1;town zzzzzz gives abcdef ask 1;ground zzzzzz 1;");
        for (String word : LANGUAGE.split(" ")) {
            String shorter = word.substring(0, Math.min(6, word.length() - 1));
            Check.sound("good " + shorter + " 1;");
            if (word.length() < 6) {
                Check.sound("good " + word + "s 1;");
            }
        }
        Check.faultAt(1, "good a^B 1;");
        Check.faultAt(1, "good a^_b 1;");
    }

    private static void blanks() {
        Check.sentence("Blanks 10, 32.");
        Check.sound("\n good\na\n\n 1 \n;\n");
        Check.sound("good a1;float f1 2 3 4;town t ask1+members;storm9;");
        for (int sign = 0; sign < 256; sign++) {
            boolean blank = sign == 10 || sign == 32;
            Check.fault("good a 1;" + (char) sign, blank ? 0 : 1, blank ? -1 : 9);
        }
        Check.faultAt(1, "^go od a 1;");
        Check.faultAt(1, "good a 1 ^2;");
        Check.faultAt(1, "good a ^b 1;");
    }

    private static void lines() {
        Check.sentence("A TEXT: { LINE ';' }.");
        FloatTowns x = new FloatTowns();
        Check.due("no line", Check.tell(x, ""), 0);
        Check.due("blanks", Check.tell(x, " \n"), 0);
        Check.due("one", Check.tell(x, "storm 2;"), 1);
        Check.due("all kinds", Check.tell(x, ALL_LINES), 11);
        Check.faultAt(1, "^;");
        Check.faultAt(1, "storm 2;^;");
        Check.faultAt(1, "storm 2 ^good a 1;");

        Check.sentence("All numbered as they come; GOODS, SORTS, TOWNS have names of their kind.");
        x = Check.with("town b ask 1;good c 1;float b 1 0 0 0;good b 2;town a ask 1;float c 2 0 0 0;good a 3;"
            + "float a 3 0 0 0;town c ask 1;");
        String order = "cba bca bac";
        for (int what = 0; what < 3; what++) {
            for (int i = 0; i < 3; i++) {
                Check.due("kind " + what, x.named(what, (order.charAt(4 * what + i) - 'a' + 1) << 25), i);
            }
        }
    }

    /** The least and the most are fine; one beyond is fault 2 at it, and so is a number that wraps round to the least. */
    private static void range(String ahead, int low, int high, String behind) {
        Check.sound(ahead + low + behind);
        Check.sound(ahead + high + behind);
        Check.sound(ahead + "0000000000000000" + high + behind);
        if (low > 0) {
            Check.faultAt(2, ahead + "^" + (low - 1) + behind);
        }
        Check.faultAt(2, ahead + "^" + (high + 1) + behind);
        for (int bits : new int[] {8, 16, 31, 32, 63, 64, 128}) {
            BigInteger wraps = BigInteger.TWO.pow(bits).add(BigInteger.valueOf(low));
            if (wraps.compareTo(BigInteger.valueOf(high)) > 0) {
                Check.faultAt(2, ahead + "^" + wraps + behind);
            }
        }
        Check.faultAt(2, ahead + "^" + BigInteger.TEN.pow(60) + behind);
    }

    private static void goods() {
        Check.sentence("GOODS, at most 5: a COST 0 .. 999.");
        range("good g ", 0, 999, ";");
        Check.faultAt(1, "good g ^- 1;");
        FloatTowns x = Check.with("good a 0;good b 1;good c 998;good d 999;good e 5;");
        Check.due("five", x.count(0), 5);
        Check.faultAt(2, "good a 0;good b 1;good c 998;good d 999;good e 5;^good f 1;");
        x = Check.with("good a 0;good b 999;float f 1 0 0 0;town t gives b ask cost;town u gives a ask cost;");
        x.go(0, 2, 0);
        Check.due("a cost of 999", x.asked(0, 0), 999 * 27720);
        x.go(0, 0, 1);
        Check.due("a cost of 0", x.asked(0, 1), 0);
    }

    private static void sorts() {
        Check.sentence("SORTS of floats, at most 5: how many 1 .. 6 (12 in all), what they PAY 0 .. 99, "
            + "what each is worth alone (OWN) 0 .. 999, what MOVING costs 0 .. 99");
        range("float f ", 1, 6, " 0 0 0;");
        range("float f 1 ", 0, 99, " 0 0;");
        range("float f 1 0 ", 0, 999, " 0;");
        range("float f 1 0 0 ", 0, 99, ";");
        FloatTowns x = Check.with("float a 1 0 0 0;float b 6 99 999 99;");
        for (int what = 0; what < 4; what++) {
            Check.due("the least", x.look(0, what), what == 0 ? 1 : 0);
            Check.due("the most", x.look(1, what), new int[] {6, 99, 999, 99}[what]);
        }
        String five = "float a 2 0 0 0;float b 2 0 0 0;float c 2 0 0 0;float d 3 0 0 0;float e ";
        Check.due("five sorts, twelve floats", Check.with(five + "3 0 0 0;").count(3), 12);
        Check.due("five sorts", Check.with(five + "1 0 0 0;").count(1), 5);
        Check.faultAt(2, five + "1 0 0 0;^float f 1 0 0 0;");
        Check.faultAt(2, five + "^4 0 0 0;");
        Check.faultAt(2, "float a 6 0 0 0;float b 6 0 0 0;float c ^1 0 0 0;");
        Check.sound("float a 6 0 0 0;float b 6 0 0 0;");
    }

    private static void wants() {
        Check.sentence("what a GOOD is worth to each, 0 .. 99 (0 without)");
        range("good g 1;float f 1 0 0 0 wants g ", 0, 99, ";");
        FloatTowns x = Check.with("good g 1;good h 1;good i 1;float f 1 0 0 0 wants h 0 wants i 99;float e 1 0 0 0;");
        Check.due("without", x.wants(0, 0), 0);
        Check.due("the least", x.wants(0, 1), 0);
        Check.due("the most", x.wants(0, 2), 99);
        Check.due("another sort without", x.wants(1, 2), 0);
    }

    private static void likings() {
        Check.sentence("what each of the first SORT likes each other float of the second (may be the same) in its town, "
            + "-20 .. 20 (0 without)");
        range("float f 1 0 0 0;like f f ", 0, 20, ";");
        range("float f 1 0 0 0;like f f - ", 0, 20, ";");
        FloatTowns x = Check.with("float a 1 0 0 0;float b 2 0 0 0;like a b - 20;like b b 20;like b a - 0;town t ask 0;");
        Check.due("without", x.likes(0, 0), 0);
        Check.due("the least", x.likes(0, 1), -20);
        Check.due("the most, of its own sort", x.likes(1, 1), 20);
        Check.due("nothing below 0", x.likes(1, 0), 0);
        Check.due("not itself", x.worth(1, 0, true), 0);
        x.go(1, 1, 0);
        Check.due("each other one", x.worth(1, 0, true), 20 * 27720);
        x.go(1, 1, 0);
        Check.due("two of the second", x.worth(0, 0, true), -40 * 27720);
        Check.faultAt(1, "float a 1 0 0 0;like a a - ^- 1;");
        Check.faultAt(1, "float a 1 0 0 0;like a a ^+ 1;");
    }

    private static void towns() {
        Check.sentence("TOWNS, at most 4: GOODS that it gives, by vote or not, BOUND or not, its RULE.");
        String four = "good g 1;good h 1;town a ask 1;town b gives h ask 1;town c votes ask 1;"
            + "town d gives g gives h votes bound ask 1;";
        FloatTowns x = Check.with(four);
        Check.due("four", x.count(2), 4);
        int[][] told = {{0, 2, 0, 3}, {0, 0, 1, 1}, {0, 0, 0, 1}};
        for (int town = 0; town < 4; town++) {
            Check.due("gives", x.town(town, 0), told[0][town]);
            Check.due("votes", x.town(town, 2), told[1][town]);
            Check.due("bound", x.town(town, 3), told[2][town]);
        }
        Check.faultAt(2, four + "^town e ask 1;");
        Check.sound("town a bound ask 1;");
        Check.faultAt(1, "town a bound ^votes ask 1;");
        Check.faultAt(1, "town a votes ^votes ask 1;");
        Check.faultAt(1, "town a bound ^bound ask 1;");
        Check.faultAt(1, "good g 1;town a votes ^gives g ask 1;");
        Check.faultAt(1, "town a^;");
    }

    private static void grounds() {
        Check.sentence("ground: of a TOWN, wide 1 .. 6, rows (bits, lowest first: a float lies there; none beyond wide), "
            + "at most 6 (without any there is no ground).");
        range("town t ask 1;ground t ", 1, 6, ";");
        for (int wide = 1; wide <= 6; wide++) {
            range("town t ask 1;ground t " + wide + " ", 0, (1 << wide) - 1, ";");
            range("town t ask 1;ground t " + wide + " 0 0 0 0 0 ", 0, (1 << wide) - 1, ";");
        }
        Check.sound("town t ask 1;ground t 1 1 1 1 1 1 1;");
        Check.faultAt(2, "town t ask 1;ground t 1 1 1 1 1 1 1 ^1;");
        FloatTowns x = Check.with("town t ask 1;town u ask 1;ground t 6 1 32;ground u 6;town v ask 1;ground v 2 0 3 0;");
        Check.due("the lowest bit first", x.out(0, 0, 0), 0);
        Check.due("the highest one last", x.out(0, 5, 1), 0);
        Check.due("no float", x.out(0, 5, 0), -2);
        Check.due("no third row", x.out(0, 0, 2), -1);
        Check.due("without any row there is no ground", x.out(1, 0, 0), -1);
        Check.due("an empty row", x.out(2, 0, 0), -2);
        Check.due("a full one", x.out(2, 0, 1), 0);
        Check.due("an empty one", x.out(2, 0, 2), -2);
    }

    private static void storms() {
        Check.sentence("storm: one month of 2 .. 99 (none without).");
        range("storm ", 2, 99, ";");
        Check.faultAt(2, "storm ^0;");
        Check.due("the least", Check.with("storm 2;").count(5), 2);
        Check.due("the most", Check.with("storm 99;").count(5), 99);
        FloatTowns x = Check.with("good g 1;");
        Check.due("none without", x.count(5), 0);
        x.months(0, 240);
        Check.due("none is tied ever", x.tied(), 0);
    }

    private static void rules() {
        Check.sentence("N of E 0 .. 999.");
        range("town t ask ", 0, 999, ";");
        range("town t ask 5 + ", 0, 999, " * 2;");
        range("town t ask (- ", 0, 999, ");");
        FloatTowns x = Check.with("float f 1 0 0 0;town t ask 999;town u ask 0;");
        x.go(0, 2, 0);
        Check.due("the most", x.asked(0, 0), 999 * 27720);
        x.go(0, 0, 1);
        Check.due("the least", x.asked(0, 1), 0);

        Check.sentence("E: S. S: T { ( + | - ) T }. T: P { ( * | / ) P }. P: N | NAME | '(' E ')' | - P");
        for (String rule : new String[] {"1", "members", "(1)", "- 1", "- - - 1", "-(-1)", "1+1-1+1", "2*2/2*2",
            "1 - - 1", "1 * - 1", "members+many*cost/pays-own", "((1)+(2))*(3)"}) {
            Check.sound("town t ask " + rule + ";");
        }
        for (String rule : new String[] {"^;", "^+ 1;", "^* 1;", "1 +^;", "1 * ^/ 2;", "1 + ^+ 2;", "1 - * 2".replace("*", "^*")
            + ";", "1 ^2;", "1 ^members;", "members ^1;", "1 ^(2);", "(1) ^2;", "(^);", "(1^;", "1^);", "((1)^;", "(1)^);",
            "- ^;", "1 - ^)", "^ask 1;", "^votes;", "^x;", "1 ^x;"}) {
            Check.faultAt(1, "town t ask " + rule);
        }
    }

    // ---- faults ----

    private static void firstFault() {
        Check.sentence("FAULTS, the first along the text (of one place the least), with its place");
        Check.faultAt(2, "good a ^1000;good a 1;?");
        Check.faultAt(3, "good a 1;good ^a 1000;?");
        Check.faultAt(4, "like ^a b 99;good a 1000;?");
        Check.faultAt(1, "good a 1^?;good a 1000;");
        Check.faultAt(2, "float f ^7 100 1000 100;");
        Check.faultAt(3, "storm 2;^storm 1;");
        Check.faultAt(2, "good a 1;good b 1;good c 1;good d 1;good e 1;^good a 1000;");
        Check.faultAt(2, "town t ask ((((((((^( ?");
        // a place with two faults: what can't stand there comes ahead of what is too much there
        Check.faultAt(1, "town t ask ((((((((1^(1");
        Check.faultAt(1, "good a 1 ^1000;");
        Check.faultAt(1, "town t ask 1 ^1000;");
        Check.faultAt(1, "town t ask 1;ground ^9 9;");
        Check.faultAt(1, "good a 1;good b 1;good c 1;good d 1;good e 1 ^good f 1;");
        Check.faultAt(1, "storm 2 ^storm 2;");
        Check.faultAt(1, "town t ask " + knots(64) + "^(;");
        Check.faultAt(1, "town t ask " + knots(63) + "+^+;");
        Check.faultAt(1, "town t ask " + knots(64) + "^members;");
        // a word that is no token is fault 1, be there something of that name or not
        Check.faultAt(1, "like ^abcdefg f 1;");
        // what is too much comes ahead of what is told already
        Check.faultAt(2, "town a ask 1;town b ask 1;town c ask 1;town d ask 1;^town a ask 1;");
    }

    private static void noTokens() {
        Check.sentence("1 a TOKEN that is none (a word of more than 6 letters, too)");
        for (int sign = 0; sign < 256; sign++) {
            boolean token = sign == 10 || sign == 32 || sign >= 'a' && sign <= 'z' || sign >= '0' && sign <= '9'
                || "+-*/();".indexOf(sign) >= 0;
            if (!token) {
                Check.fault("good a " + (char) sign + "1;", 1, 7);
                Check.fault("town t ask 1 + " + (char) sign + ";", 1, 15);
                Check.fault("" + (char) sign, 1, 0);
            }
        }
        Check.faultAt(1, "^goodgood a 1;");
        Check.faultAt(1, "good ^abcdefg 1;");
        Check.faultAt(1, "good ^abcdefghijklmnopqrstuvwxyz 1;");
        Check.faultAt(1, "town t ask ^memberss;");
        Check.faultAt(1, "good a 1^abcdefg;");
    }

    private static void cannotStand() {
        Check.sentence("or can't stand there (the length, if more must come)");
        List<Integer> starts = starts(ALL_LINES);
        for (int start : starts) {
            boolean lineBegins = start == 0 || ALL_LINES.substring(0, start).trim().endsWith(";");
            String ahead = ALL_LINES.substring(0, start);
            Check.fault(ahead + " ? " + ALL_LINES.substring(start), 1, start + 1);
            if (!lineBegins) {
                Check.fault(ahead + " ground t 1;", 1, start + 1);
                Check.fault(ahead + " storm 5;", 1, start + 1);
            } else {
                for (String word : "wants gives votes bound ask members many cost pays own g 7 - ( ) + * / ;".split(" ")) {
                    Check.fault(ahead + " " + word + " " + ALL_LINES.substring(start), 1, start + 1);
                }
            }
        }
    }

    /** What must come is left out, and what comes behind it stands in its place. */
    private static void leftOut() {
        Check.sentence("LINE: good W N | float W N N N N { wants W N } | like W W [ - ] N | "
            + "town W { gives W } [ votes ] [ bound ] ask E | ground W N { N } | storm N.");
        String told = "good g 1;float f 1 0 0 0;town t ask 1;";
        Check.sound(told);
        for (String line : new String[] {"good h^;", "good ^1;", "good ^;", "float e^;", "float e 1^;", "float e 1 0^;",
            "float e 1 0 0^;", "float ^1 0 0 0;", "float e 1 0 0 ^wants g 1;", "float e 1 0 0 0 wants g^;",
            "float e 1 0 0 0 wants ^1;", "float e 1 0 0 0 ^g 1;", "float e 1 0 0 0 wants g ^wants g 1;",
            "float e 1 0 0 0 wants g 1 ^g 1;", "like f f^;", "like f f -^;", "like f ^1;", "like f ^- 1;", "like ^1;",
            "town u^;", "town u ask^;", "town u ^1;", "town ^ask 1;", "town u gives ^ask 1;", "town u ^g ask 1;",
            "town u votes^;", "town u bound^;", "ground t^;", "ground ^1 1;", "ground ^;", "storm^;", "good h 1 ^1;",
            "float e 1 0 0 0 ^0;", "float e 1 0 0 0 wants g 1 ^1;", "like f f 1 ^1;", "like f f ^f;",
            "ground t 1 1 ^t;", "storm 2 ^2;"}) {
            Check.faultAt(1, told + line);
        }
    }

    private static void moreMustCome() {
        Check.sentence("(the length, if more must come)");
        for (int start : starts(ALL_LINES)) {
            String cut = ALL_LINES.substring(0, start);
            if (cut.isEmpty() || cut.endsWith(";")) {
                Check.sound(cut);
                Check.sound(cut + " \n ");
            } else {
                Check.fault(cut, 1, cut.length());
                Check.fault(cut + "\n  \n", 1, cut.length() + 4);
            }
        }
    }

    /** Where the tokens of a text start. */
    private static List<Integer> starts(String text) {
        List<Integer> starts = new ArrayList<>();
        for (int i = 0; i < text.length(); i++) {
            char sign = text.charAt(i);
            char ahead = i == 0 ? ' ' : text.charAt(i - 1);
            boolean same = Character.isLetter(sign) && Character.isLetter(ahead)
                || Character.isDigit(sign) && Character.isDigit(ahead);
            if (sign != ' ' && !same) {
                starts.add(i);
            }
        }
        return starts;
    }

    /** A sum of an odd number of knots, or of an even one with a minus ahead. */
    private static String knots(int many) {
        StringBuilder sum = new StringBuilder(many % 2 == 0 ? "-1" : "1");
        for (int knots = many % 2 == 0 ? 2 : 1; knots < many; knots += 2) {
            sum.append("+1");
        }
        return sum.toString();
    }

    private static void tooMuch() {
        Check.sentence("a number beyond what is said (so many that there would be more than 12 floats, too)");
        for (int first = 1; first <= 6; first++) {
            for (int second = 1; second <= 6; second++) {
                String two = "float a " + first + " 0 0 0;float b " + second + " 0 0 0;float c ";
                int left = Math.min(6, 12 - first - second);
                if (left > 0) {
                    Check.sound(two + left + " 0 0 0;");
                }
                Check.faultAt(2, two + "^" + (left + 1) + " 0 0 0;");
            }
        }

        Check.sentence("a sixth good and so on (at the word of the LINE)");
        String goods = "good a 1;good b 1;good c 1;good d 1;good e 1;";
        String sorts = "float a 1 0 0 0;float b 1 0 0 0;float c 1 0 0 0;float d 1 0 0 0;float e 1 0 0 0;";
        String towns = "town a ask 1;town b ask 1;town c ask 1;town d ask 1;";
        Check.sound(goods + sorts + towns);
        for (String end : new String[] {" f 1;", " a 1;", "", " ?", ";"}) {
            Check.faultAt(2, goods + sorts + towns + "^good" + end);
            Check.faultAt(2, goods + sorts + towns + " \n ^float" + end);
            Check.faultAt(2, goods + sorts + towns + "^town" + end);
        }

        Check.sentence("a seventh row (at its N)");
        String six = "town t ask 1;ground t 2 0 1 2 3 0 1";
        Check.sound(six + ";");
        Check.faultAt(2, six + " ^0;");
        Check.faultAt(2, six + " ^4;");
        Check.faultAt(2, six + " ^1 1 1;");
        Check.faultAt(1, six + " ^a;");

        Check.sentence("a ninth '(' open");
        Check.sound("town t ask ((((((((1))))))));");
        Check.sound("town t ask ((((((((1)))))))) + ((((((((1))))))));");
        Check.sound("town t ask ((((((((1)+(1))))))));town u ask ((((((((1))))))));");
        Check.faultAt(2, "town t ask ((((((((^(1)))))))));");
        Check.faultAt(2, "town t ask (((((((1)+((^(1))))))));");
        Check.faultAt(2, "town t ask ((((((((1+^(1)))))))));");
        Check.faultAt(2, "town t ask ((((((((- ^(1)))))))));");

        Check.sentence("a 65th KNOT of all E (N, NAMES, signs: one each)");
        Check.due("64 of one E", Check.with("town t ask " + knots(64) + ";").count(4), 64);
        FloatTowns all = Check.with("float f 1 0 0 0;town t ask " + knots(64) + ";");
        all.go(0, 1, 0);
        Check.due("31 less 1, to the last knot", all.asked(0, 0), 30 * 27720);
        Check.due("brackets are none", Check.with("town t ask ((" + knots(64) + "));").count(4), 64);
        Check.faultAt(2, "town t ask " + knots(64) + "^+1;");
        Check.faultAt(2, "town t ask " + knots(64) + "^/1;");
        Check.faultAt(2, "town t ask " + knots(63) + "+^1;");
        Check.faultAt(2, "town t ask " + knots(63) + "+^members;");
        Check.faultAt(2, "town t ask " + knots(63) + "+^-1;");
        Check.faultAt(2, "town t ask " + knots(63) + "+(^1);");
        Check.faultAt(2, "town t ask " + knots(63) + "+^1000;");
        for (int left = 1; left <= 3; left++) {
            String three = "town t ask " + knots(30) + ";town u ask " + knots(31 - left) + ";town v ask own+";
            Check.due("of three E", Check.with(three + knots(left + 1) + ";").count(4), 64);
            Check.faultAt(2, three + knots(left + 1) + "^-1;");
        }
        Check.faultAt(2, "town t ask " + knots(64) + ";town u ask ^1;");
        Check.faultAt(2, "town t ask " + knots(64) + ";town u ask ((^pays));");
        Check.faultAt(2, "town t ask " + knots(64) + ";town u ask ^-1;");
        FloatTowns x = Check.with("town t ask " + knots(64) + ";");
        for (int i = 0; i < 5; i++) {
            Check.due("a later text counts its own", Check.tell(x, "town t ask " + knots(64) + ";"), 1);
            Check.due("and no more", x.count(4), 64);
        }
    }

    private static void toldAlready() {
        Check.sentence("3 told already: a name of its kind (at W)");
        Check.faultAt(3, "good a 1;good b 1;good ^a 1;");
        Check.faultAt(3, "float a 1 0 0 0;float b 1 0 0 0;float ^b 1 0 0 0;");
        Check.faultAt(3, "town a ask 1;town ^a ask 1;");
        Check.sound("good a 1;float a 1 0 0 0;town a ask 1;");
        Check.sound("good a 1;good aa 1;good aaa 1;good aaaa 1;good aaaaaa 1;");

        Check.sentence("a GOOD that is wanted or given by the same (at W)");
        String goods = "good g 1;good h 1;";
        Check.faultAt(3, goods + "float f 1 0 0 0 wants g 1 wants ^g 1;");
        Check.faultAt(3, goods + "float f 1 0 0 0 wants g 0 wants h 1 wants ^g 1;");
        Check.faultAt(3, goods + "town t gives g gives ^g ask 1;");
        Check.faultAt(3, goods + "town t gives h gives g gives ^h ask 1;");
        Check.sound(goods + "float f 1 0 0 0 wants g 1 wants h 1;float e 1 0 0 0 wants g 1;");
        Check.sound(goods + "town t gives g gives h ask 1;town u gives g ask 1;");

        Check.sentence("a like of the same two (at the second W)");
        String two = "float f 1 0 0 0;float e 1 0 0 0;";
        Check.faultAt(3, two + "like f e 1;like f ^e 1;");
        Check.faultAt(3, two + "like f f 0;like f ^f 0;");
        Check.faultAt(3, two + "like f e 0;like e f 1;like f f 1;like e e 1;like f ^e - 1;");
        Check.sound(two + "like f e 1;like e f 1;like f f 1;like e e 1;");

        Check.sentence("a ground of the same TOWN (at W)");
        String towns = "town t ask 1;town u ask 1;";
        Check.faultAt(3, towns + "ground t 1 1;ground ^t 1 1;");
        Check.faultAt(3, towns + "ground t 1;ground u 1 1;ground ^t 2 1;");
        Check.sound(towns + "ground t 1 1;ground u 1 1;");

        Check.sentence("storm (at the word)");
        Check.faultAt(3, "storm 2;^storm 2;");
        Check.faultAt(3, "storm 2;good a 1;^storm 3;");
        Check.faultAt(3, "storm 2;^storm;");
        FloatTowns x = Check.with("storm 2;");
        Check.due("a later text tells its own", Check.tell(x, "storm 3;"), 1);
    }

    private static void notTold() {
        Check.sentence("4 a GOOD, SORT, TOWN that isn't told ahead (at W).");
        Check.faultAt(4, "float f 1 0 0 0 wants ^g 1;good g 1;");
        Check.faultAt(4, "float g 1 0 0 0;town g ask 1;float f 1 0 0 0 wants ^g 1;");
        Check.faultAt(4, "float f 1 0 0 0 wants ^f 1;");
        Check.faultAt(4, "town t gives ^g ask 1;good g 1;");
        Check.faultAt(4, "town t gives ^t ask 1;");
        Check.faultAt(4, "like ^f f 1;float f 1 0 0 0;");
        Check.faultAt(4, "float f 1 0 0 0;like f ^e 1;float e 1 0 0 0;");
        Check.faultAt(4, "good g 1;town g ask 1;like ^g g 1;");
        Check.faultAt(4, "ground ^t 1;town t ask 1;");
        Check.faultAt(4, "good t 1;float t 1 0 0 0;ground ^t 1;");
        FloatTowns x = Check.with("good g 1;float f 1 0 0 0;town t ask 1;");
        Check.due("a former text's good", Check.tell(x, "town u gives g ask 1;"), -1);
        Check.due("is not told", x.fault(0), 4);
    }
}
