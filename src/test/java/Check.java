import java.util.ArrayList;
import java.util.List;
import java.util.NoSuchElementException;

/** What the tests share: feeding a text, and counting answers that are not due. */
final class Check {
    static final long MIN = Long.MIN_VALUE;
    /** Numbers of nothing that small texts tell; 32 and 64 would be 0 to a shift. */
    static final int[] FAR = {Integer.MIN_VALUE, -1000, -2, -1, 5, 6, 31, 32, 64, 1 << 16, Integer.MAX_VALUE};
    private static int looked;
    private static int wrong;
    private static int sentences;
    private static int lookedAhead;
    private static String sentence = "";

    private Check() {
    }

    /** The document's sentence that the next answers are about, to the letter; one without answers is wrong. */
    static void sentence(String words) {
        closeSentence();
        sentence = words;
        sentences++;
        lookedAhead = looked;
    }

    private static void closeSentence() {
        if (!sentence.isEmpty() && looked == lookedAhead) {
            wrong++;
            System.out.println("no answer is asked about: " + sentence);
        }
        sentence = "";
    }

    static void due(String call, long got, long want) {
        looked++;
        if (got != want) {
            wrong++;
            if (wrong <= 50) {
                String about = sentence.isEmpty() ? "" : "\"" + sentence + "\": ";
                System.out.println(about + call + " answered " + got + ", due is " + want);
            }
        }
    }

    static void due(String call, boolean got, boolean want) {
        due(call, got ? 1 : 0, want ? 1 : 0);
    }

    /** Ends the test: with exit code 1 if an answer was wrong. */
    static void end(String test) {
        closeSentence();
        String about = sentences == 0 ? "" : " about " + sentences + " sentences";
        System.out.println(test + ": " + looked + " answers" + about + ", " + wrong + " wrong");
        if (wrong > 0 || looked == 0) {
            System.exit(1);
        }
    }

    /** Puts a text on the tape, filled up with blanks to a multiple of twenty bytes. */
    static void feed(FloatTowns x, String text) {
        for (int at = 0; at < text.length(); at += 20) {
            int[] four = new int[5];
            for (int i = 0; i < 20; i++) {
                int sign = at + i < text.length() ? text.charAt(at + i) : ' ';
                four[i / 4] = (four[i / 4] << 8) | (sign & 255);
            }
            x.feed(four[0], four[1], four[2], four[3], four[4]);
        }
    }

    /** Feeds a text and lets it be read to its own length. */
    static int tell(FloatTowns x, String text) {
        feed(x, text);
        return x.text(text.length());
    }

    /** A new object with a text that has no fault. */
    static FloatTowns with(String text) {
        FloatTowns x = new FloatTowns();
        int lines = tell(x, text);
        if (lines < 0) {
            due("text: " + text + " fault " + x.fault(0) + " at " + x.fault(1), lines, 0);
        }
        return x;
    }

    /** A text that must have this fault at this place; fault 0: none. */
    static void fault(String text, int fault, int place) {
        FloatTowns x = new FloatTowns();
        int lines = tell(x, text);
        due("text(" + text + ") has a fault", lines < 0, fault != 0);
        due("fault(0) of " + text, x.fault(0), fault);
        due("fault(1) of " + text, x.fault(1), place);
    }

    /** A text with a mark (^) where it must have this fault; the mark is no part of it. */
    static void faultAt(int fault, String marked) {
        fault(marked.replace("^", ""), fault, marked.indexOf('^'));
    }

    static void sound(String text) {
        fault(text, 0, -1);
    }

    /** 0 if look answers, 1 for IndexOutOfBoundsException, 2 for NoSuchElementException, 3 for another one. */
    static int lookThrows(FloatTowns x, int sort, int what) {
        try {
            x.look(sort, what);
            return 0;
        } catch (IndexOutOfBoundsException e) {
            return 1;
        } catch (NoSuchElementException e) {
            return 2;
        } catch (RuntimeException e) {
            return 3;
        }
    }

    static int letters(String name) {
        int packed = 0;
        for (int i = 0; i < 6; i++) {
            packed = packed * 32 + (i < name.length() ? name.charAt(i) - 'a' + 1 : 0);
        }
        return packed;
    }

    /** All answers that change nothing, on small and wrong arguments: two objects in one state answer the same. */
    static List<Long> answers(FloatTowns x) {
        List<Long> all = new ArrayList<>();
        for (int i = -1; i <= 8; i++) {
            all.add((long) x.count(i));
        }
        for (int s = -1; s <= 5; s++) {
            for (int p = -1; p <= 5; p++) {
                all.add((long) x.at(s, p));
                all.add(x.worth(s, p, false));
                all.add(x.worth(s, p, true));
                all.add(x.asked(s, p));
                all.add((long) x.town(s, p));
                all.add((long) x.edge(s, p));
            }
        }
        all.add(x.total());
        all.add((long) x.tied());
        return all;
    }
}
