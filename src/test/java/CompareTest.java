import java.util.Random;

/** Chance runs of calls, each answered by the class and by the slow Oracle: the two must agree on every one. */
public final class CompareTest {
    private final Random random;
    private final FloatTowns x = new FloatTowns();
    private final Oracle o = new Oracle();
    private final String run;
    private final boolean small;
    private String text = "";

    private CompareTest(int seed, boolean small) {
        random = new Random(seed);
        run = "run " + seed + ": ";
        this.small = small;
    }

    public static void main(String[] args) {
        for (int seed = 0; seed < 1500; seed++) {
            new CompareTest(seed, true).calls(200);
        }
        for (int seed = 2000; seed < 2300; seed++) {
            new CompareTest(seed, false).calls(120);
        }
        for (int seed = 3000; seed < 9000; seed++) {
            new CompareTest(seed, false).faults();
        }
        Check.end("CompareTest");
    }

    private int near(int low, int high) {
        return low + random.nextInt(high - low + 1);
    }

    private int any() {
        int[] odd = {Integer.MIN_VALUE, Integer.MAX_VALUE, -1, -2, 7, 31, 100, 1000, 1 << 30};
        return random.nextInt(12) == 0 ? odd[random.nextInt(odd.length)] : near(-1, 5);
    }

    private int sort() {
        return random.nextInt(15) == 0 ? any() : near(0, Math.max(0, o.count(1) - 1));
    }

    private int town() {
        return random.nextInt(15) == 0 ? any() : near(0, Math.max(0, o.count(2) - 1));
    }

    private int place() {
        return random.nextInt(15) == 0 ? any() : near(0, o.count(2));
    }

    private void due(String call, long got, long want) {
        Check.due(got == want ? "" : run + text + " | " + call, got, want);
    }

    private void read(String next) {
        text = next;
        for (int at = 0; at < next.length(); at += 20) {
            int[] four = new int[5];
            for (int i = 0; i < 20; i++) {
                int sign = at + i < next.length() ? next.charAt(at + i) : ' ';
                four[i / 4] = (four[i / 4] << 8) | (sign & 255);
            }
            due("feed", x.feed(four[0], four[1], four[2], four[3], four[4]),
                o.feed(four[0], four[1], four[2], four[3], four[4]));
        }
        due("text", x.text(next.length()), o.text(next.length()));
        due("fault(0)", x.fault(0), o.fault(0));
        due("fault(1)", x.fault(1), o.fault(1));
    }

    private void faults() {
        Texts texts = new Texts(random, 12);
        read(texts.sound());
        for (int i = 0; i < 12; i++) {
            read(texts.changed(texts.sound()));
            for (int what = -1; what <= 8; what++) {
                due("count(" + what + ")", x.count(what), o.count(what));
            }
            due("total()", x.total(), o.total());
        }
    }

    private void calls(int many) {
        Texts texts = new Texts(random, small ? 2 + random.nextInt(4) : 12);
        read(texts.sound());
        for (int i = 0; i < many; i++) {
            if (random.nextInt(400) == 0) {
                read(random.nextBoolean() ? texts.sound() : texts.changed(texts.sound()));
            }
            change();
            ask();
            askFar();
        }
    }

    private void change() {
        int a = place();
        int b = place();
        int s = sort();
        switch (random.nextInt(12)) {
            case 0:
            case 1:
                due("go(" + s + "," + a + "," + b + ")", x.go(s, a, b) ? 1 : 0, o.go(s, a, b) ? 1 : 0);
                break;
            case 2:
                int n = random.nextInt(4) == 0 ? near(-1, 301) : near(0, 3);
                due("goings(" + n + ")", x.goings(n), o.goings(n));
                break;
            case 3:
                int extra = random.nextInt(4) == 0 ? near(-1001, 1001) : near(-15, 15);
                int t = town();
                due("extra(" + t + "," + extra + ")", x.extra(t, extra) ? 1 : 0, o.extra(t, extra) ? 1 : 0);
                break;
            case 4:
                boolean on = random.nextInt(4) == 0;
                int town = town();
                due("bind(" + town + "," + on + ")", x.bind(town, on) ? 1 : 0, o.bind(town, on) ? 1 : 0);
                break;
            case 5:
                int seed = random.nextInt(9) == 0 ? any() : random.nextInt(Integer.MAX_VALUE);
                int months = random.nextInt(5) == 0 ? near(-1, 241) : near(0, 8);
                due("months(" + seed + "," + months + ")", x.months(seed, months), o.months(seed, months));
                break;
            case 6:
                if (small && random.nextInt(3) == 0) {
                    due("best()", x.best() ? 1 : 0, o.best() ? 1 : 0);
                }
                break;
            case 7:
            case 8:
                due("undo()", x.undo(), o.undo());
                break;
            case 9:
                due("keep()", x.keep(), o.keep());
                break;
            case 10:
                if (random.nextInt(3) == 0) {
                    due("back()", x.back(), o.back());
                }
                break;
            default:
                break;
        }
    }

    private void ask() {
        int s = sort();
        int a = place();
        int b = place();
        boolean comes = random.nextBoolean();
        int what = any();
        due("at(" + s + "," + a + ")", x.at(s, a), o.at(s, a));
        due("worth(" + s + "," + a + "," + comes + ")", x.worth(s, a, comes), o.worth(s, a, comes));
        due("asked(" + s + "," + a + ")", x.asked(s, a), o.asked(s, a));
        due("gain(" + s + "," + a + "," + b + ")", x.gain(s, a, b), o.gain(s, a, b));
        due("first(" + what + ")", x.first(what), o.first(what));
        due("town(" + a + "," + what + ")", x.town(a, what), o.town(a, what));
        due("count(" + what + ")", x.count(what), o.count(what));
        due("count(7)", x.count(7), o.count(7));
        due("wants(" + s + "," + what + ")", x.wants(s, what), o.wants(s, what));
        due("likes(" + s + "," + what + ")", x.likes(s, what), o.likes(s, what));
        due("total()", x.total(), o.total());
        due("met(" + a + ")", x.met(a), o.met(a));
        due("edge(" + a + "," + s + ")", x.edge(a, s), o.edge(a, s));
        due("tied()", x.tied(), o.tied());
        due("look(" + s + "," + what + ")", look(true, s, what), look(false, s, what));
        int x0 = near(-1, 6);
        int y0 = near(-1, 6);
        due("out(" + a + "," + x0 + "," + y0 + ")", x.out(a, x0, y0), o.out(a, x0, y0));
        String[] names = {"a", "b", "ab", "sea", "salt", "zzzzzz", "q", "harbor", "x", ""};
        int letters = Check.letters(names[random.nextInt(names.length)]);
        due("named(" + what + "," + letters + ")", x.named(what, letters), o.named(what, letters));
    }

    private long look(boolean real, int s, int what) {
        try {
            return real ? x.look(s, what) : o.look(s, what);
        } catch (IndexOutOfBoundsException e) {
            return -100;
        } catch (java.util.NoSuchElementException e) {
            return -200;
        }
    }

    private void askFar() {
        int t = town();
        int a = place();
        int b = place();
        int what = random.nextInt(9) == 0 ? any() : near(0, 2);
        int party = random.nextInt(9) == 0 ? any() : random.nextInt(random.nextInt(2) == 0 ? 60 : 17000);
        due("would(" + party + "," + a + "," + b + ")", x.would(party, a, b), o.would(party, a, b));
        switch (random.nextInt(10)) {
            case 0:
                int most = random.nextInt(9) == 0 ? any() : near(1, 12);
                due("party(" + most + "," + what + ")", x.party(most, what), o.party(most, what));
                break;
            case 1:
                due("ring(" + what + ")", x.ring(what), o.ring(what));
                break;
            case 2:
                if (small || random.nextInt(10) == 0) {
                    due("empties(" + t + ")", x.empties(t), o.empties(t));
                }
                break;
            case 3:
                int k = random.nextInt(9) == 0 ? any() : near(0, 6);
                int s = sort();
                if (small && random.nextInt(4) == 0) {
                    due("all(" + what + ")", x.all(what), o.all(what));
                    due("held(" + k + "," + s + "," + a + ")", x.held(k, s, a), o.held(k, s, a));
                    due("lost(" + what + ")", x.lost(what), o.lost(what));
                }
                break;
            case 4:
                int flat = random.nextInt(9) == 0 ? any() : near(0, 30);
                int times = random.nextInt(9) == 0 ? any() : near(0, 30);
                due("reform(" + t + "," + flat + "," + times + "," + what + ")", x.reform(t, flat, times, what),
                    o.reform(t, flat, times, what));
                break;
            case 5:
            case 6:
                int other = town();
                due("split(" + t + "," + other + "," + what + ")", x.split(t, other, what), o.split(t, other, what));
                break;
            case 7:
                int seed = random.nextInt(9) == 0 ? any() : random.nextInt(Integer.MAX_VALUE);
                int draws = random.nextInt(9) == 0 ? near(-1, 21) : near(1, 3);
                int months = random.nextInt(9) == 0 ? near(-1, 61) : near(1, 9);
                due("odds(" + t + "," + seed + "," + draws + "," + months + ")", x.odds(t, seed, draws, months),
                    o.odds(t, seed, draws, months));
                break;
            default:
                break;
        }
    }
}
