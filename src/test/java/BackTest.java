import java.util.ArrayList;
import java.util.List;

/** Promises 36 (undo), 37 (keep) and 38 (back). */
public final class BackTest {
    private static final String TEXT = "good a 0;float f 3 0 1 0 wants a 9;float g 1 0 0 0;"
        + "town t gives a ask many * 2;town u bound ask 3;storm 3;";

    public static void main(String[] args) {
        each();
        thirty();
        nothing();
        images();
        Check.end("BackTest");
    }

    /** Whatever can be undone: all answers are as they were ahead of it. */
    private static void each() {
        FloatTowns x = Check.with(TEXT);
        List<List<Long>> ahead = new ArrayList<>();
        for (int step = 0; step < 12; step++) {
            ahead.add(Check.answers(x));
            boolean done;
            switch (step % 6) {
                case 0:
                    done = x.go(1, step < 6 ? 2 : 0, step < 6 ? 0 : 1);
                    break;
                case 1:
                    done = x.extra(1, step);
                    break;
                case 2:
                    done = x.bind(1, step > 6);
                    break;
                case 3:
                    done = x.months(0, step) > 0;
                    break;
                case 4:
                    x.extra(0, -step);
                    ahead.add(Check.answers(x));
                    done = x.goings(step) > 0 || x.best();
                    break;
                default:
                    x.go(0, x.at(0, 0) > 0 ? 0 : 2, 1);
                    ahead.add(Check.answers(x));
                    done = x.best() || x.go(0, 1, 0);
                    break;
            }
            Check.due("step " + step + " was done", done, true);
        }
        Check.due("so many to undo", x.count(7), ahead.size());
        for (int left = ahead.size() - 1; left >= 0; left--) {
            Check.due("undo, left", x.undo(), left);
            Check.due("all as ahead of step " + left, ahead.get(left).equals(Check.answers(x)), true);
        }
        Check.due("no more", x.undo(), -1);
        Check.due("and it changes nothing", ahead.get(0).equals(Check.answers(x)), true);
    }

    private static void thirty() {
        FloatTowns x = Check.with(TEXT);
        for (int i = 1; i <= 45; i++) {
            x.extra(0, i);
            Check.due("count(7)", x.count(7), Math.min(i, 30));
        }
        for (int i = 29; i >= 0; i--) {
            Check.due("undo", x.undo(), i);
            Check.due("the extra then", x.town(0, 4), 15 + i);
        }
        Check.due("older ones are gone", x.undo(), -1);
        Check.due("it stays", x.town(0, 4), 15);
        x.extra(0, 99);
        Check.due("one again", x.count(7), 1);
        Check.due("undo", x.undo(), 0);
        Check.due("as it was", x.town(0, 4), 15);
    }

    private static void nothing() {
        FloatTowns x = Check.with(TEXT);
        Check.due("undo", x.undo(), -1);
        x.go(0, 0, 1);
        x.extra(0, 0);
        x.extra(0, 1000);
        x.bind(1, true);
        x.goings(0);
        x.months(0, 0);
        x.months(-1, 5);
        x.ring(0);
        x.all(0);
        x.odds(0, 0, 5, 5);
        x.empties(0);
        x.reform(0, 9, 9, 0);
        x.split(0, 1, 0);
        x.keep();
        Check.due("nothing was done", x.count(7), 0);
        x.goings(300);
        int steps = x.count(7);
        x.goings(300);
        Check.due("goings of none", x.count(7), steps);
        x.best();
        steps = x.count(7);
        x.best();
        Check.due("best already", x.count(7), steps);
    }

    private static void images() {
        FloatTowns x = Check.with(TEXT);
        Check.due("no image", x.back(), -1);
        x.months(0, 3);
        x.extra(0, -7);
        x.bind(1, false);
        x.go(1, x.at(1, 2) > 0 ? 2 : 0, 1);
        List<Long> kept = Check.answers(x);
        Check.due("keep", x.keep(), 3);
        Check.due("keeping leaves what can be undone", x.count(7), 4);
        Check.due("keeping changes nothing", kept.equals(Check.answers(x)), true);
        x.undo();
        x.undo();
        x.months(9, 20);
        x.goings(9);
        x.extra(1, 5);
        Check.due("back", x.back(), 3);
        Check.due("nothing to undo", x.count(7), 0);
        Check.due("undo", x.undo(), -1);
        // what can be undone is none of the image
        kept.set(8, 0L);
        Check.due("all as in the image", kept.equals(Check.answers(x)), true);
        x.months(0, 5);
        Check.due("the image stays", x.back(), 3);
        Check.due("all as in the image again", kept.equals(Check.answers(x)), true);
        x.months(0, 5);
        Check.due("in place of it", x.keep(), 8);
        x.undo();
        Check.due("the new image", x.back(), 8);
        Check.tell(x, TEXT + "?");
        Check.due("it stays by a fault", x.back(), 8);
        Check.tell(x, TEXT);
        Check.due("none behind a text", x.back(), -1);
    }
}
