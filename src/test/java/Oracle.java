import java.math.BigInteger;
import java.util.ArrayDeque;
import java.util.ArrayList;
import java.util.Arrays;
import java.util.Collections;
import java.util.HashMap;
import java.util.List;
import java.util.Map;
import java.util.NoSuchElementException;
import java.util.Set;
import java.util.TreeSet;

/** A second FloatTowns, slow and written another way (trees, recursion, big numbers, nothing kept), to compare with. */
final class Oracle {
    static final long MIN = Long.MIN_VALUE;
    private static final BigInteger UNIT = BigInteger.valueOf(27720);
    private static final BigInteger MOST = BigInteger.TEN.pow(12);
    private static final Set<String> LANGUAGE = new TreeSet<>(Arrays.asList("good", "float", "wants", "like", "town",
        "gives", "votes", "bound", "ask", "ground", "storm", "members", "many", "cost", "pays", "own"));

    private static final class Fault extends RuntimeException {
        private static final long serialVersionUID = 1;
        final int code;
        final int place;

        Fault(int code, int place) {
            this.code = code;
            this.place = place;
        }
    }

    private static final class Token {
        final String word;
        final int place;

        Token(String word, int place) {
            this.word = word;
            this.place = place;
        }
    }

    /** A rule's tree: a number or name has no parts. */
    private static final class Tree {
        final String top;
        final Tree left;
        final Tree right;

        Tree(String top, Tree left, Tree right) {
            this.top = top;
            this.left = left;
            this.right = right;
        }
    }

    private static final class Told {
        final List<String> goods = new ArrayList<>();
        final List<String> sorts = new ArrayList<>();
        final List<String> towns = new ArrayList<>();
        final List<Integer> costs = new ArrayList<>();
        final List<int[]> figures = new ArrayList<>();
        final List<Map<Integer, Integer>> wants = new ArrayList<>();
        final Map<String, Integer> likes = new HashMap<>();
        final List<Set<Integer>> gives = new ArrayList<>();
        final List<Boolean> votes = new ArrayList<>();
        final List<Boolean> bound = new ArrayList<>();
        final List<Tree> rules = new ArrayList<>();
        final Map<Integer, boolean[][]> grounds = new HashMap<>();
        int storm;
        int floats;
        int knots;
        int lines;
    }

    private static final class State {
        int[][] where;
        int[] extra;
        boolean[] bound;
        int tied;
        int months;

        State copy() {
            State s = new State();
            s.where = new int[where.length][];
            for (int i = 0; i < where.length; i++) {
                s.where[i] = where[i].clone();
            }
            s.extra = extra.clone();
            s.bound = bound.clone();
            s.tied = tied;
            s.months = months;
            return s;
        }
    }

    private final StringBuilder tape = new StringBuilder();
    private Told told = new Told();
    private State now = fresh(told);
    private State image;
    private final ArrayDeque<State> past = new ArrayDeque<>();
    private int faultCode;
    private int faultPlace = -1;
    private int[] reform;

    // ---- reading ----

    int feed(int a, int b, int c, int d, int e) {
        if (tape.length() + 20 > 800) {
            return -1;
        }
        for (int four : new int[] {a, b, c, d, e}) {
            for (int i = 3; i >= 0; i--) {
                tape.append((char) ((four >>> (8 * i)) & 255));
            }
        }
        return tape.length();
    }

    int text(int n) {
        if (n < 0 || n > tape.length()) {
            return -2;
        }
        String text = tape.substring(0, n);
        tape.setLength(0);
        try {
            Told read = new Descent(text).text();
            told = read;
            now = fresh(told);
            image = null;
            past.clear();
            faultCode = 0;
            faultPlace = -1;
            return told.lines;
        } catch (Fault f) {
            faultCode = f.code;
            faultPlace = f.place;
            return -1;
        }
    }

    private static State fresh(Told told) {
        State s = new State();
        int towns = told.towns.size();
        s.where = new int[told.sorts.size()][towns + 1];
        for (int i = 0; i < s.where.length; i++) {
            s.where[i][towns] = told.figures.get(i)[0];
        }
        s.extra = new int[towns];
        s.bound = new boolean[towns];
        for (int i = 0; i < towns; i++) {
            s.bound[i] = told.bound.get(i);
        }
        return s;
    }

    private static final class Descent {
        private final String text;
        private final List<Token> tokens = new ArrayList<>();
        private final Told told = new Told();
        private int at;
        private int open;

        Descent(String text) {
            this.text = text;
            int i = 0;
            while (i < text.length()) {
                char c = text.charAt(i);
                if (c == 10 || c == 32) {
                    i++;
                    continue;
                }
                int j = i + 1;
                if (c >= 'a' && c <= 'z') {
                    while (j < text.length() && text.charAt(j) >= 'a' && text.charAt(j) <= 'z') {
                        j++;
                    }
                } else if (c >= '0' && c <= '9') {
                    while (j < text.length() && text.charAt(j) >= '0' && text.charAt(j) <= '9') {
                        j++;
                    }
                }
                tokens.add(new Token(text.substring(i, j), i));
                i = j;
            }
        }

        private String see() {
            return at < tokens.size() ? tokens.get(at).word : "";
        }

        private int place() {
            return at < tokens.size() ? tokens.get(at).place : text.length();
        }

        private Fault fail(int code) {
            return new Fault(code, place());
        }

        private boolean sees(String word) {
            return see().equals(word);
        }

        private void must(String word) {
            if (!sees(word)) {
                throw fail(1);
            }
            at++;
        }

        private String word() {
            String w = see();
            if (!w.matches("[a-z]{1,6}") || LANGUAGE.contains(w)) {
                throw fail(1);
            }
            return w;
        }

        private String fresh(List<String> kind) {
            String w = word();
            if (kind.contains(w)) {
                throw fail(3);
            }
            at++;
            return w;
        }

        private int old(List<String> kind) {
            String w = word();
            int i = kind.indexOf(w);
            if (i < 0) {
                throw fail(4);
            }
            return i;
        }

        private int number(int low, int high) {
            if (!see().matches("[0-9]+")) {
                throw fail(1);
            }
            BigInteger n = new BigInteger(see());
            if (n.compareTo(BigInteger.valueOf(low)) < 0 || n.compareTo(BigInteger.valueOf(high)) > 0) {
                throw fail(2);
            }
            at++;
            return n.intValue();
        }

        Told text() {
            while (at < tokens.size()) {
                line();
                must(";");
                told.lines++;
            }
            return told;
        }

        private void line() {
            String kind = see();
            int full = kind.equals("good") ? told.goods.size() / 5
                : kind.equals("float") ? told.sorts.size() / 5
                : kind.equals("town") ? told.towns.size() / 4 : 0;
            if (full > 0) {
                throw fail(2);
            }
            if (kind.equals("storm") && told.storm > 0) {
                throw fail(3);
            }
            if (!Arrays.asList("good", "float", "like", "town", "ground", "storm").contains(kind)) {
                throw fail(1);
            }
            at++;
            if (kind.equals("good")) {
                String name = fresh(told.goods);
                told.costs.add(number(0, 999));
                told.goods.add(name);
            } else if (kind.equals("float")) {
                floats();
            } else if (kind.equals("like")) {
                like();
            } else if (kind.equals("town")) {
                town();
            } else if (kind.equals("ground")) {
                ground();
            } else {
                told.storm = number(2, 99);
            }
        }

        private void floats() {
            String name = fresh(told.sorts);
            int many = number(1, Math.min(6, 12 - told.floats));
            told.floats += many;
            told.figures.add(new int[] {many, number(0, 99), number(0, 999), number(0, 99)});
            Map<Integer, Integer> wants = new HashMap<>();
            while (sees("wants")) {
                at++;
                int good = old(told.goods);
                if (wants.containsKey(good)) {
                    throw fail(3);
                }
                at++;
                wants.put(good, number(0, 99));
            }
            told.wants.add(wants);
            told.sorts.add(name);
        }

        private void like() {
            int sort = old(told.sorts);
            at++;
            int other = old(told.sorts);
            if (told.likes.containsKey(sort + " " + other)) {
                throw fail(3);
            }
            at++;
            int sign = 1;
            if (sees("-")) {
                at++;
                sign = -1;
            }
            told.likes.put(sort + " " + other, sign * number(0, 20));
        }

        private void town() {
            String name = fresh(told.towns);
            Set<Integer> gives = new TreeSet<>();
            while (sees("gives")) {
                at++;
                if (!gives.add(old(told.goods))) {
                    throw fail(3);
                }
                at++;
            }
            boolean votes = sees("votes");
            at += votes ? 1 : 0;
            boolean bound = sees("bound");
            at += bound ? 1 : 0;
            must("ask");
            told.rules.add(sum());
            told.gives.add(gives);
            told.votes.add(votes);
            told.bound.add(bound);
            told.towns.add(name);
        }

        private void ground() {
            int town = old(told.towns);
            if (told.grounds.containsKey(town)) {
                throw fail(3);
            }
            at++;
            int wide = number(1, 6);
            List<Integer> rows = new ArrayList<>();
            while (see().matches("[0-9]+")) {
                if (rows.size() == 6) {
                    throw fail(2);
                }
                rows.add(number(0, (1 << wide) - 1));
            }
            boolean[][] taken = new boolean[rows.size()][wide];
            for (int y = 0; y < rows.size(); y++) {
                for (int x = 0; x < wide; x++) {
                    taken[y][x] = (rows.get(y) >> x) % 2 == 1;
                }
            }
            told.grounds.put(town, taken);
        }

        private void knot() {
            if (told.knots == 64) {
                throw fail(2);
            }
            told.knots++;
        }

        private Tree sum() {
            Tree tree = term();
            while (sees("+") || sees("-")) {
                knot();
                String sign = see();
                at++;
                tree = new Tree(sign, tree, term());
            }
            return tree;
        }

        private Tree term() {
            Tree tree = part();
            while (sees("*") || sees("/")) {
                knot();
                String sign = see();
                at++;
                tree = new Tree(sign, tree, part());
            }
            return tree;
        }

        private Tree part() {
            if (sees("-")) {
                knot();
                at++;
                return new Tree("neg", part(), null);
            }
            if (sees("(")) {
                if (open == 8) {
                    throw fail(2);
                }
                open++;
                at++;
                Tree tree = sum();
                must(")");
                open--;
                return tree;
            }
            if (see().matches("[0-9]+")) {
                knot();
                return new Tree("" + number(0, 999), null, null);
            }
            if (Arrays.asList("members", "many", "cost", "pays", "own").contains(see())) {
                knot();
                String name = see();
                at++;
                return new Tree(name, null, null);
            }
            throw fail(1);
        }
    }

    int fault(int what) {
        return what == 0 ? faultCode : what == 1 ? faultPlace : -1;
    }

    // ---- what is told ----

    int named(int what, int letters) {
        List<List<String>> kinds = Arrays.asList(told.goods, told.sorts, told.towns);
        if (what < 0 || what > 2) {
            return -1;
        }
        for (int i = 0; i < kinds.get(what).size(); i++) {
            if (Check.letters(kinds.get(what).get(i)) == letters) {
                return i;
            }
        }
        return -1;
    }

    int look(int sort, int what) {
        if (!sort(sort)) {
            throw new IndexOutOfBoundsException();
        }
        if (what < 0 || what > 3) {
            throw new NoSuchElementException();
        }
        return told.figures.get(sort)[what];
    }

    int wants(int sort, int good) {
        return sort(sort) && good >= 0 && good < told.goods.size() ? told.wants.get(sort).getOrDefault(good, 0) : -1;
    }

    int likes(int sort, int other) {
        return sort(sort) && sort(other) ? told.likes.getOrDefault(sort + " " + other, 0) : -99;
    }

    private boolean sort(int s) {
        return s >= 0 && s < told.sorts.size();
    }

    private boolean town(int t) {
        return t >= 0 && t < told.towns.size();
    }

    private boolean place(int p) {
        return p >= 0 && p <= told.towns.size();
    }

    int town(int town, int what) {
        if (!town(town)) {
            return -1;
        }
        int[] crew = crew(now, town);
        switch (what) {
            case 0:
                return bits(told.gives.get(town));
            case 1:
                return bits(given(town, crew));
            case 2:
                return told.votes.get(town) ? 1 : 0;
            case 3:
                return now.bound[town] ? 1 : 0;
            case 4:
                return now.extra[town];
            case 5:
                return Arrays.stream(crew).sum();
            default:
                return -1;
        }
    }

    private static int bits(Set<Integer> set) {
        int bits = 0;
        for (int i : set) {
            bits += 1 << i;
        }
        return bits;
    }

    int count(int what) {
        int[] all = {told.goods.size(), told.sorts.size(), told.towns.size(), told.floats, told.knots, told.storm,
            now.months, past.size()};
        return what < 0 || what > 7 ? -1 : all[what];
    }

    int at(int sort, int place) {
        return sort(sort) && place(place) ? now.where[sort][place] : -1;
    }

    // ---- worth ----

    private static int[] crew(State s, int place) {
        int[] crew = new int[s.where.length];
        for (int i = 0; i < crew.length; i++) {
            crew[i] = s.where[i][place];
        }
        return crew;
    }

    private Set<Integer> given(int town, int[] crew) {
        Set<Integer> given = new TreeSet<>();
        int members = Arrays.stream(crew).sum();
        for (int good : told.gives.get(town)) {
            int aye = 0;
            for (int s = 0; s < crew.length; s++) {
                for (int i = 0; i < crew[s]; i++) {
                    if (wants(s, good) * members > told.costs.get(good)) {
                        aye++;
                    }
                }
            }
            if (!told.votes.get(town) || aye > members - aye) {
                given.add(good);
            }
        }
        return given;
    }

    private int cost(Set<Integer> given) {
        int cost = 0;
        for (int good : given) {
            cost += told.costs.get(good);
        }
        return cost;
    }

    private BigInteger value(Tree t, int sort, int town, int[] crew) {
        BigInteger value;
        if (t.top.equals("neg")) {
            value = value(t.left, sort, town, crew).negate();
        } else if (t.left != null) {
            BigInteger a = value(t.left, sort, town, crew);
            BigInteger b = value(t.right, sort, town, crew);
            if (t.top.equals("+")) {
                value = a.add(b);
            } else if (t.top.equals("-")) {
                value = a.subtract(b);
            } else if (t.top.equals("*")) {
                value = a.multiply(b).divide(UNIT);
            } else {
                value = a.multiply(UNIT).divide(b);
            }
        } else {
            int[] figures = told.figures.get(sort);
            int n = t.top.equals("members") ? Arrays.stream(crew).sum()
                : t.top.equals("many") ? crew[sort]
                : t.top.equals("cost") ? cost(given(town, crew))
                : t.top.equals("pays") ? figures[1]
                : t.top.equals("own") ? figures[2]
                : Integer.parseInt(t.top);
            value = UNIT.multiply(BigInteger.valueOf(n));
        }
        if (value.abs().compareTo(MOST) > 0) {
            throw new ArithmeticException();
        }
        return value;
    }

    private long asks(State s, int sort, int town, int[] crew) {
        long rule;
        if (reform != null && reform[0] == town) {
            rule = 27720L * (reform[1] + reform[2] * told.figures.get(sort)[1]);
        } else {
            try {
                rule = value(told.rules.get(town), sort, town, crew).longValueExact();
            } catch (ArithmeticException e) {
                rule = 0;
            }
        }
        return rule + 27720L * s.extra[town];
    }

    /** Worth to one of a sort of a place with this crew, it in it. */
    private long worth(State s, int sort, int place, int[] crew) {
        if (place == told.towns.size()) {
            return 27720L * told.figures.get(sort)[2];
        }
        long sum = 0;
        for (int good : given(place, crew)) {
            sum += wants(sort, good);
        }
        for (int other = 0; other < crew.length; other++) {
            for (int i = other == sort ? 1 : 0; i < crew[other]; i++) {
                sum += likes(sort, other);
            }
        }
        return 27720L * sum - asks(s, sort, place, crew);
    }

    private static int[] with(int[] crew, int[] more, int sign) {
        int[] sum = crew.clone();
        for (int i = 0; i < sum.length; i++) {
            sum[i] += sign * more[i];
        }
        return sum;
    }

    private int[] single(int sort) {
        int[] crew = new int[told.sorts.size()];
        crew[sort] = 1;
        return crew;
    }

    long worth(int sort, int place, boolean comes) {
        if (!sort(sort) || !place(place) || !comes && now.where[sort][place] == 0) {
            return MIN;
        }
        int[] crew = crew(now, place);
        return worth(now, sort, place, comes ? with(crew, single(sort), 1) : crew);
    }

    long asked(int sort, int town) {
        return sort(sort) && town(town) && now.where[sort][town] > 0 ? asks(now, sort, town, crew(now, town)) : MIN;
    }

    private long gain(State s, int sort, int[] party, int a, int b) {
        return worth(s, sort, b, with(crew(s, b), party, 1)) - worth(s, sort, a, crew(s, a))
            - 27720L * told.figures.get(sort)[3];
    }

    long gain(int sort, int a, int b) {
        if (!sort(sort) || !place(a) || !place(b) || a == b || now.where[sort][a] == 0) {
            return MIN;
        }
        return gain(now, sort, single(sort), a, b);
    }

    private long total(State s) {
        long sum = 0;
        for (int sort = 0; sort < s.where.length; sort++) {
            for (int p = 0; p < s.where[sort].length; p++) {
                if (s.where[sort][p] > 0) {
                    sum += s.where[sort][p] * worth(s, sort, p, crew(s, p));
                }
            }
        }
        return sum;
    }

    long total() {
        return total(now);
    }

    private boolean met(State s, int town) {
        int[] crew = crew(s, town);
        long sum = 0;
        for (int sort = 0; sort < crew.length; sort++) {
            for (int i = 0; i < crew[sort]; i++) {
                sum += asks(s, sort, town, crew);
            }
        }
        return sum >= 27720L * cost(given(town, crew));
    }

    int met(int town) {
        return !town(town) ? -1 : met(now, town) ? 1 : 0;
    }

    // ---- going ----

    private void push() {
        past.addLast(now.copy());
        if (past.size() > 30) {
            past.removeFirst();
        }
    }

    boolean go(int sort, int a, int b) {
        if (!sort(sort) || !place(a) || !place(b) || a == b || now.where[sort][a] == 0) {
            return false;
        }
        push();
        now.where[sort][a]--;
        now.where[sort][b]++;
        return true;
    }

    private boolean bound(State s, int place) {
        return place < s.bound.length && s.bound[place];
    }

    private int[] first(State s) {
        for (int sort = 0; sort < s.where.length; sort++) {
            for (int a = 0; a <= told.towns.size(); a++) {
                for (int b = 0; b <= told.towns.size(); b++) {
                    if (a != b && s.where[sort][a] > 0 && !bound(s, a) && gain(s, sort, single(sort), a, b) > 0) {
                        return new int[] {sort, a, b};
                    }
                }
            }
        }
        return null;
    }

    int first(int what) {
        int[] found = first(now);
        return found == null || what < 0 || what > 2 ? -1 : found[what];
    }

    private boolean would(State s, int[] party, int a, int b) {
        if (bound(s, a)) {
            return false;
        }
        for (int sort = 0; sort < party.length; sort++) {
            if (party[sort] > 0 && gain(s, sort, party, a, b) <= 0) {
                return false;
            }
        }
        return true;
    }

    private int[] crewOf(int party) {
        if (party <= 0) {
            return null;
        }
        String sevens = new StringBuilder(Integer.toString(party, 7)).reverse().toString();
        if (sevens.length() > told.sorts.size()) {
            return null;
        }
        int[] crew = new int[told.sorts.size()];
        for (int i = 0; i < sevens.length(); i++) {
            crew[i] = sevens.charAt(i) - '0';
        }
        return crew;
    }

    private static int code(int[] crew) {
        int code = 0;
        int seven = 1;
        for (int c : crew) {
            code += c * seven;
            seven *= 7;
        }
        return code;
    }

    private static boolean within(int[] crew, int[] all) {
        for (int i = 0; i < crew.length; i++) {
            if (crew[i] > all[i]) {
                return false;
            }
        }
        return true;
    }

    int would(int party, int a, int b) {
        int[] crew = crewOf(party);
        if (crew == null || !place(a) || !place(b) || a == b || !within(crew, crew(now, a))) {
            return -1;
        }
        return would(now, crew, a, b) ? 1 : 0;
    }

    /** All crews within one, the ones with the fewest of sort 0 first. */
    private static void crews(int[] all, int from, int[] crew, List<int[]> into) {
        if (from == all.length) {
            into.add(crew.clone());
            return;
        }
        for (int i = 0; i <= all[from]; i++) {
            crew[from] = i;
            crews(all, from + 1, crew, into);
        }
        crew[from] = 0;
    }

    int party(int most, int what) {
        if (most < 1 || most > 12 || what < 0 || what > 2) {
            return -1;
        }
        int[] all = new int[told.sorts.size()];
        for (int i = 0; i < all.length; i++) {
            all[i] = told.figures.get(i)[0];
        }
        List<int[]> parties = new ArrayList<>();
        crews(all, 0, new int[all.length], parties);
        Collections.reverse(parties);
        parties.sort((c, d) -> Arrays.stream(c).sum() - Arrays.stream(d).sum());
        for (int[] party : parties) {
            int size = Arrays.stream(party).sum();
            for (int a = 0; size > 0 && size <= most && a <= told.towns.size(); a++) {
                for (int b = 0; b <= told.towns.size(); b++) {
                    if (a != b && within(party, crew(now, a)) && would(now, party, a, b)) {
                        return what == 0 ? code(party) : what == 1 ? a : b;
                    }
                }
            }
        }
        return -1;
    }

    private boolean goOne(State s) {
        int[] f = first(s);
        if (f == null) {
            return false;
        }
        s.where[f[0]][f[1]]--;
        s.where[f[0]][f[2]]++;
        return true;
    }

    int goings(int n) {
        if (n < 0 || n > 300) {
            return -1;
        }
        State before = now.copy();
        int gone = 0;
        while (gone < n && goOne(now)) {
            gone++;
        }
        if (gone > 0) {
            State after = now;
            now = before;
            push();
            now = after;
        }
        return gone;
    }

    private int[] course(State from, State[] last) {
        State s = from.copy();
        Map<String, Integer> seen = new HashMap<>();
        for (int k = 0; k <= 300; k++) {
            String key = Arrays.deepToString(s.where);
            last[0] = s;
            if (seen.containsKey(key)) {
                return new int[] {2, seen.get(key), k - seen.get(key)};
            }
            seen.put(key, k);
            if (!goOne(s)) {
                return new int[] {1, k, -1};
            }
        }
        return new int[] {3, -1, -1};
    }

    int ring(int what) {
        return what < 0 || what > 2 ? -1 : course(now, new State[1])[what];
    }

    // ---- all partings ----

    private List<State> partings() {
        List<State> all = new ArrayList<>();
        State s = now.copy();
        long many = 1;
        for (int sort = 0; sort < s.where.length; sort++) {
            int n = told.figures.get(sort)[0];
            Arrays.fill(s.where[sort], 0);
            s.where[sort][told.towns.size()] = n;
            List<int[]> ways = new ArrayList<>();
            ways(n, new int[told.towns.size()], 0, ways);
            many *= ways.size();
        }
        if (many > 3000) {
            return null;
        }
        partings(s, 0, all);
        return all;
    }

    private void ways(int left, int[] way, int from, List<int[]> into) {
        if (from == way.length) {
            into.add(way.clone());
            return;
        }
        for (int i = 0; i <= left; i++) {
            way[from] = i;
            ways(left - i, way, from + 1, into);
        }
    }

    private void partings(State s, int sort, List<State> into) {
        if (sort == s.where.length) {
            into.add(s.copy());
            return;
        }
        int n = told.figures.get(sort)[0];
        List<int[]> ways = new ArrayList<>();
        ways(n, new int[told.towns.size()], 0, ways);
        for (int[] way : ways) {
            System.arraycopy(way, 0, s.where[sort], 0, way.length);
            s.where[sort][way.length] = n - Arrays.stream(way).sum();
            partings(s, sort + 1, into);
        }
    }

    private List<State> holding(List<State> all) {
        List<State> holding = new ArrayList<>();
        for (State s : all) {
            if (first(s) == null) {
                holding.add(s);
            }
        }
        return holding;
    }

    int all(int what) {
        if (what < 0 || what > 1) {
            return -1;
        }
        List<State> all = partings();
        return all == null ? -2 : what == 0 ? all.size() : holding(all).size();
    }

    int held(int k, int sort, int place) {
        List<State> all = partings();
        if (all == null) {
            return -2;
        }
        List<State> holding = holding(all);
        return k < 0 || k >= holding.size() || !sort(sort) || !place(place) ? -1 : holding.get(k).where[sort][place];
    }

    private State bestOf(List<State> all) {
        State best = null;
        for (State s : all) {
            if (best == null || total(s) > total(best)) {
                best = s;
            }
        }
        return best;
    }

    long lost(int what) {
        if (what < 0 || what > 2) {
            return MIN;
        }
        List<State> all = partings();
        if (all == null) {
            return -2;
        }
        long best = total(bestOf(all));
        if (what == 0) {
            return best;
        }
        TreeSet<Long> totals = new TreeSet<>();
        for (State s : holding(all)) {
            totals.add(total(s));
        }
        return totals.isEmpty() ? MIN : best - (what == 1 ? totals.last() : totals.first());
    }

    boolean best() {
        List<State> all = partings();
        if (all == null) {
            return false;
        }
        State best = bestOf(all);
        if (Arrays.deepEquals(best.where, now.where)) {
            return false;
        }
        push();
        now = now.copy();
        now.where = best.copy().where;
        return true;
    }

    // ---- what towns may do ----

    boolean extra(int town, int extra) {
        if (!town(town) || extra < -999 || extra > 999 || now.extra[town] == extra) {
            return false;
        }
        push();
        now.extra[town] = extra;
        return true;
    }

    boolean bind(int town, boolean on) {
        if (!town(town) || now.bound[town] == on) {
            return false;
        }
        push();
        now.bound[town] = on;
        return true;
    }

    int edge(int town, int sort) {
        if (!town(town) || !sort(sort) || now.where[sort][town] == 0) {
            return -1;
        }
        for (int more = 0; more <= 999; more++) {
            State s = now.copy();
            s.extra[town] += more;
            for (int b = 0; b <= told.towns.size(); b++) {
                if (b != town && !s.bound[town] && gain(s, sort, single(sort), town, b) > 0) {
                    return more;
                }
            }
        }
        return 1000;
    }

    int empties(int town) {
        if (!town(town)) {
            return -1;
        }
        for (int more = 0; more <= 40; more++) {
            State s = now.copy();
            s.extra[town] += more;
            State[] last = new State[1];
            if (course(s, last)[0] == 1 && Arrays.stream(crew(last[0], town)).sum() == 0) {
                return more;
            }
        }
        return 41;
    }

    int reform(int town, int a, int b, int what) {
        if (!town(town) || a < 0 || a > 30 || b < 0 || b > 30 || what < 0 || what > 1) {
            return -1;
        }
        try {
            for (int x = 0; x <= a; x++) {
                for (int y = 0; y <= b; y++) {
                    reform = new int[] {town, x, y};
                    if (first(now) == null && met(now, town)) {
                        return what == 0 ? x : y;
                    }
                }
            }
            return -2;
        } finally {
            reform = null;
        }
    }

    private long sumIn(int place, int[] crew) {
        long sum = 0;
        for (int sort = 0; sort < crew.length; sort++) {
            for (int i = 0; i < crew[sort]; i++) {
                sum += worth(now, sort, place, crew);
            }
        }
        return sum;
    }

    long split(int town, int other, int what) {
        if (!town(town) || !town(other) || town == other || what < 0 || what > 1
            || Arrays.stream(crew(now, other)).sum() > 0) {
            return MIN;
        }
        int[] crew = crew(now, town);
        List<int[]> parties = new ArrayList<>();
        crews(crew, 0, new int[crew.length], parties);
        long best = MIN;
        int[] found = null;
        for (int[] party : parties) {
            long sum = sumIn(other, party) + sumIn(town, with(crew, party, -1));
            for (int sort = 0; sort < crew.length; sort++) {
                sum -= 27720L * told.figures.get(sort)[3] * party[sort];
            }
            if (found == null || sum > best) {
                best = sum;
                found = party;
            }
        }
        return what == 0 ? code(found) : best - sumIn(town, crew);
    }

    int out(int town, int x, int y) {
        boolean[][] ground = told.grounds.get(town);
        if (!town(town) || ground == null || y < 0 || y >= ground.length || x < 0 || x >= ground[0].length) {
            return -1;
        }
        if (!ground[y][x]) {
            return -2;
        }
        // those that move, as few as may be: a search by how many of them lie on the way
        int[][] far = new int[ground.length][ground[0].length];
        for (int[] row : far) {
            Arrays.fill(row, 99);
        }
        walk(ground, far, x, y, 0);
        int least = 99;
        for (int row = 0; row < far.length; row++) {
            for (int column = 0; column < far[0].length; column++) {
                if (row % (far.length - 1 == 0 ? 1 : far.length - 1) == 0
                    || column % (far[0].length - 1 == 0 ? 1 : far[0].length - 1) == 0) {
                    least = Math.min(least, far[row][column]);
                }
            }
        }
        return least;
    }

    private void walk(boolean[][] ground, int[][] far, int x, int y, int moved) {
        if (y < 0 || y >= ground.length || x < 0 || x >= ground[0].length || far[y][x] <= moved) {
            return;
        }
        far[y][x] = moved;
        int[][] ways = {{1, 0}, {-1, 0}, {0, 1}, {0, -1}};
        for (int[] way : ways) {
            int nextX = x + way[0];
            int nextY = y + way[1];
            boolean in = nextY >= 0 && nextY < ground.length && nextX >= 0 && nextX < ground[0].length;
            walk(ground, far, nextX, nextY, moved + (in && ground[nextY][nextX] ? 1 : 0));
        }
    }

    // ---- months ----

    private BigInteger chance;

    private int number() {
        chance = chance.multiply(BigInteger.valueOf(1103515245)).add(BigInteger.valueOf(12345))
            .mod(BigInteger.TWO.pow(31));
        return chance.divide(BigInteger.valueOf(65536)).intValueExact();
    }

    private void month(State s) {
        if (s.tied > 0) {
            s.tied--;
        } else {
            goOne(s);
        }
        if (told.storm > 0 && number() % told.storm == 0) {
            s.tied = 12;
        }
        s.months++;
    }

    int months(int seed, int many) {
        if (seed < 0 || many < 0 || many > 240) {
            return -1;
        }
        if (many > 0) {
            push();
            chance = BigInteger.valueOf(seed);
            for (int i = 0; i < many; i++) {
                month(now);
            }
        }
        return now.months;
    }

    int tied() {
        return now.tied;
    }

    int odds(int town, int seed, int draws, int months) {
        if (!town(town) || seed < 0 || draws < 1 || draws > 20 || months < 1 || months > 60) {
            return -1;
        }
        chance = BigInteger.valueOf(seed);
        int empty = 0;
        for (int d = 0; d < draws; d++) {
            State s = now.copy();
            for (int i = 0; i < months; i++) {
                month(s);
            }
            empty += Arrays.stream(crew(s, town)).sum() == 0 ? 1 : 0;
        }
        return empty;
    }

    // ---- steps back ----

    int undo() {
        if (past.isEmpty()) {
            return -1;
        }
        now = past.removeLast();
        return past.size();
    }

    int keep() {
        image = now.copy();
        return now.months;
    }

    int back() {
        if (image == null) {
            return -1;
        }
        now = image.copy();
        past.clear();
        return now.months;
    }
}
