import java.util.Arrays;
import java.util.NoSuchElementException;

/**
 * Houses that float from town to town. A text tells goods, sorts of floats and towns; the calls ask who would
 * sail where, and let them.
 *
 * <p>Two packings go through the whole file. A CREW is an int with three bits for each sort: how many of it (a
 * sort has six floats, and one more may be asked about, so seven is the most). A PARTING is a long with the crews
 * of the towns, fifteen bits each; who is in no town is ALONE.
 */
public final class FloatTowns {
    public static final int NONE = -1;
    public static final int SPENT = -2;

    private static final int GOODS = 5;
    private static final int SORTS = 5;
    private static final int TOWNS = 4;
    private static final int KINDS = 3;
    private static final int GOOD_KIND = 0;
    private static final int SORT_KIND = 1;
    private static final int TOWN_KIND = 2;
    private static final int FIGURES = 4;
    private static final int MANY = 0;
    private static final int PAYS = 1;
    private static final int OWN = 2;
    private static final int MOVING = 3;
    private static final int FLOATS_MOST = 12;
    private static final int SORT_MOST = 6;
    private static final int TAPE_MOST = 800;
    private static final int EXTRA_MOST = 999;
    private static final int GOINGS_MOST = 300;
    private static final int MONTHS_MOST = 240;
    private static final int DRAWS_MOST = 20;
    private static final int DRAW_MONTHS_MOST = 60;
    private static final int RATE_MOST = 30;
    private static final int NO_LIKING = -99;
    private static final long UNIT = 27720L;
    private static final long NO_VALUE = Long.MIN_VALUE;

    private final Tokens tokens;
    private final Reader reader;
    private final Sailing sailing;
    private final Course course;
    private final Survey survey;
    private final History history;
    private final Scene now;
    private Plan plan;
    private Plan spare;
    private int fault;
    private int faultPlace;

    public FloatTowns() {
        tokens = new Tokens();
        reader = new Reader(tokens);
        sailing = new Sailing();
        course = new Course(sailing);
        survey = new Survey(sailing);
        history = new History();
        now = new Scene();
        plan = new Plan();
        spare = new Plan();
        fault = 0;
        faultPlace = NONE;
        sailing.board(plan);
    }

    // ---- the text ----

    public int feed(int a, int b, int c, int d, int e) {
        if (!tokens.hasRoom(20)) {
            return NONE;
        }
        tokens.putFour(a);
        tokens.putFour(b);
        tokens.putFour(c);
        tokens.putFour(d);
        tokens.putFour(e);
        return tokens.tapeLength();
    }

    public int text(int n) {
        if (n < 0 || n > tokens.tapeLength()) {
            return -2;
        }
        boolean good = reader.reads(n, spare);
        fault = tokens.faultFound();
        faultPlace = tokens.placeOfFault();
        if (!good) {
            return NONE;
        }
        Plan former = plan;
        plan = spare;
        spare = former;
        sailing.board(plan);
        survey.forget();
        history.forget();
        now.begin(plan.boundTowns);
        return plan.lines;
    }

    public int fault(int what) {
        switch (what) {
            case 0:
                return fault;
            case 1:
                return faultPlace;
            default:
                return NONE;
        }
    }

    // ---- what is told ----

    public int named(int what, int letters) {
        return what < 0 || what >= KINDS ? NONE : plan.find(what, letters);
    }

    public int look(int sort, int what) throws IndexOutOfBoundsException, NoSuchElementException {
        if (!isSort(sort)) {
            throw new IndexOutOfBoundsException("no such sort");
        }
        if (what < 0 || what >= FIGURES) {
            throw new NoSuchElementException("no such figure of a sort");
        }
        return plan.figure(sort, what);
    }

    public int wants(int sort, int good) {
        return isSort(sort) && good >= 0 && good < plan.told[GOOD_KIND] ? plan.wants[sort * GOODS + good] : NONE;
    }

    public int likes(int sort, int other) {
        return isSort(sort) && isSort(other) ? plan.likes[sort * SORTS + other] : NO_LIKING;
    }

    public int town(int town, int what) {
        if (!isTown(town)) {
            return NONE;
        }
        int crew = plan.crewAt(now.parting, town);
        switch (what) {
            case 0:
                return plan.gives[town];
            case 1:
                return sailing.givenIn(town, crew);
            case 2:
                return (plan.votingTowns >> town) & 1;
            case 3:
                return (now.bound >> town) & 1;
            case 4:
                return now.extras[town];
            case 5:
                return sizeOf(crew);
            default:
                return NONE;
        }
    }

    public int count(int what) {
        switch (what) {
            case 0:
            case 1:
            case 2:
                return plan.told[what];
            case 3:
                return plan.floats;
            case 4:
                return plan.rules.knots;
            case 5:
                return plan.storm;
            case 6:
                return now.months;
            case 7:
                return history.steps();
            default:
                return NONE;
        }
    }

    // ---- what a place is worth ----

    public int at(int sort, int place) {
        return isSort(sort) && isPlace(place) ? part(plan.crewAt(now.parting, place), sort) : NONE;
    }

    public long worth(int sort, int place, boolean comes) {
        if (!isSort(sort) || !isPlace(place)) {
            return NO_VALUE;
        }
        int crew = plan.crewAt(now.parting, place);
        if (comes) {
            return sailing.worthOfOneMore(now, sort, place, crew);
        }
        return part(crew, sort) == 0 ? NO_VALUE : sailing.worthIn(now, sort, place, crew);
    }

    public long asked(int sort, int town) {
        if (!isSort(sort) || !isTown(town)) {
            return NO_VALUE;
        }
        int crew = plan.crewAt(now.parting, town);
        return part(crew, sort) == 0 ? NO_VALUE : sailing.askedIn(now, sort, town, crew);
    }

    public long gain(int sort, int a, int b) {
        return canGo(sort, a, b) ? sailing.gainOf(now, sort, a, b) : NO_VALUE;
    }

    public long total() {
        return sailing.totalOf(now);
    }

    public int met(int town) {
        return isTown(town) ? asBit(sailing.isMet(now, town)) : NONE;
    }

    // ---- who would go ----

    public boolean go(int sort, int a, int b) {
        if (!canGo(sort, a, b)) {
            return false;
        }
        history.record(now);
        now.parting = plan.shifted(now.parting, one(sort), a, b);
        return true;
    }

    public int first(int what) {
        if (what < 0 || what > 2 || !sailing.seekFirst(now)) {
            return NONE;
        }
        return what == 0 ? sailing.foundSort : foundPlace(what);
    }

    public int would(int party, int a, int b) {
        int crew = crewOfParty(party);
        if (crew == NONE || !isPlace(a) || !isPlace(b) || a == b) {
            return NONE;
        }
        return covers(plan.crewAt(now.parting, a), crew) ? asBit(sailing.partyWould(now, crew, a, b)) : NONE;
    }

    public int party(int most, int what) {
        if (most < 1 || most > FLOATS_MOST || what < 0 || what > 2 || !sailing.seekParty(now, most)) {
            return NONE;
        }
        return what == 0 ? partyOfCrew(sailing.foundCrew) : foundPlace(what);
    }

    // ---- goings and months ----

    public int goings(int n) {
        if (n < 0 || n > GOINGS_MOST) {
            return NONE;
        }
        if (n == 0 || !sailing.seekFirst(now)) {
            return 0;
        }
        history.record(now);
        return course.sail(now, n);
    }

    public int ring(int what) {
        if (what < 0 || what > 2) {
            return NONE;
        }
        course.trace(now);
        if (what == 0) {
            return course.end;
        }
        return what == 1 ? course.behind : course.period;
    }

    public int empties(int town) {
        return isTown(town) ? course.leastEmptying(now, town) : NONE;
    }

    public int months(int seed, int many) {
        if (seed < 0 || many < 0 || many > MONTHS_MOST) {
            return NONE;
        }
        if (many > 0) {
            history.record(now);
            course.sow(seed);
            course.pass(now, many);
        }
        return now.months;
    }

    public int tied() {
        return now.tied;
    }

    public int odds(int town, int seed, int draws, int months) {
        if (!isTown(town) || seed < 0 || draws < 1 || draws > DRAWS_MOST) {
            return NONE;
        }
        if (months < 1 || months > DRAW_MONTHS_MOST) {
            return NONE;
        }
        course.sow(seed);
        return course.emptyDraws(now, town, draws, months);
    }

    // ---- all partings ----

    public int all(int what) {
        if (what != 0 && what != 1) {
            return NONE;
        }
        if (!survey.make(now)) {
            return SPENT;
        }
        return what == 0 ? survey.partings : survey.holding;
    }

    public int held(int k, int sort, int place) {
        if (!survey.make(now)) {
            return SPENT;
        }
        if (k < 0 || k >= survey.holding || !isSort(sort) || !isPlace(place)) {
            return NONE;
        }
        return part(plan.crewAt(survey.held[k], place), sort);
    }

    public long lost(int what) {
        if (what < 0 || what > 2) {
            return NO_VALUE;
        }
        if (!survey.make(now)) {
            return SPENT;
        }
        if (what == 0) {
            return survey.bestTotal;
        }
        if (survey.holding == 0) {
            return NO_VALUE;
        }
        return survey.bestTotal - (what == 1 ? survey.greatestHeld : survey.leastHeld);
    }

    public boolean best() {
        if (!survey.make(now) || survey.bestParting == now.parting) {
            return false;
        }
        history.record(now);
        now.parting = survey.bestParting;
        return true;
    }

    // ---- what towns may do ----

    public boolean extra(int town, int extra) {
        if (!isTown(town) || extra < -EXTRA_MOST || extra > EXTRA_MOST || now.extras[town] == extra) {
            return false;
        }
        history.record(now);
        now.extras[town] = extra;
        return true;
    }

    public boolean bind(int town, boolean on) {
        if (!isTown(town) || now.isBound(town) == on) {
            return false;
        }
        history.record(now);
        now.bound ^= 1 << town;
        return true;
    }

    public int edge(int town, int sort) {
        if (!isTown(town) || !isSort(sort) || part(plan.crewAt(now.parting, town), sort) == 0) {
            return NONE;
        }
        return sailing.edgeOf(now, town, sort);
    }

    public int reform(int town, int a, int b, int what) {
        if (!isTown(town) || !isRate(a) || !isRate(b) || what < 0 || what > 1) {
            return NONE;
        }
        if (!sailing.seekReform(now, town, a, b)) {
            return -2;
        }
        return what == 0 ? sailing.foundFlat : sailing.foundTimes;
    }

    public long split(int town, int other, int what) {
        if (!isTown(town) || !isTown(other) || town == other || what < 0 || what > 1) {
            return NO_VALUE;
        }
        if (plan.crewAt(now.parting, other) != 0) {
            return NO_VALUE;
        }
        sailing.seekSplit(now, town, other);
        return what == 0 ? partyOfCrew(sailing.foundCrew) : sailing.foundBetter;
    }

    public int out(int town, int x, int y) {
        if (!isTown(town) || !plan.grounds.hasPlace(town, x, y)) {
            return NONE;
        }
        return plan.grounds.isTaken(town, x, y) ? plan.grounds.leastMoved(town, x, y) : -2;
    }

    // ---- images and steps back ----

    public int undo() {
        return history.stepBack(now) ? history.steps() : NONE;
    }

    public int keep() {
        history.keepImage(now);
        return now.months;
    }

    public int back() {
        return history.showImage(now) ? now.months : NONE;
    }

    // ---- what the calls above ask first ----

    private boolean isSort(int sort) {
        return sort >= 0 && sort < plan.told[SORT_KIND];
    }

    private boolean isTown(int town) {
        return town >= 0 && town < plan.told[TOWN_KIND];
    }

    private boolean isPlace(int place) {
        return place >= 0 && place <= plan.told[TOWN_KIND];
    }

    private boolean canGo(int sort, int a, int b) {
        return isSort(sort) && isPlace(a) && isPlace(b) && a != b && part(plan.crewAt(now.parting, a), sort) > 0;
    }

    private int foundPlace(int what) {
        return what == 1 ? sailing.foundFrom : sailing.foundTo;
    }

    /** The crew of a party told by sevens; NONE if some float would be of a sort that is not told, or nobody is. */
    private int crewOfParty(int party) {
        if (party <= 0) {
            return NONE;
        }
        int rest = party;
        int crew = 0;
        for (int sort = 0; sort < plan.told[SORT_KIND]; sort++) {
            crew += rest % 7 * one(sort);
            rest /= 7;
        }
        return rest == 0 ? crew : NONE;
    }

    private static int partyOfCrew(int crew) {
        int party = 0;
        for (int sort = SORTS - 1; sort >= 0; sort--) {
            party = party * 7 + part(crew, sort);
        }
        return party;
    }

    private static boolean isRate(int rate) {
        return rate >= 0 && rate <= RATE_MOST;
    }

    private static int asBit(boolean yes) {
        return yes ? 1 : 0;
    }

    // ---- crews ----

    /** A crew of one float of a sort. */
    private static int one(int sort) {
        return 1 << (3 * sort);
    }

    private static int part(int crew, int sort) {
        return (crew >> (3 * sort)) & 7;
    }

    private static int sizeOf(int crew) {
        int size = 0;
        for (int sort = 0; sort < SORTS; sort++) {
            size += part(crew, sort);
        }
        return size;
    }

    private static boolean covers(int crew, int some) {
        for (int sort = 0; sort < SORTS; sort++) {
            if (part(some, sort) > part(crew, sort)) {
                return false;
            }
        }
        return true;
    }

    /** The tape, and its bytes read as tokens, with the first fault that is found. */
    private static final class Tokens {
        /** The kinds of tokens; a sign's kind is its own character. */
        static final int END = 0;
        static final int BROKEN = 1;
        static final int NUMBER = 2;
        static final int FREE_WORD = 3;
        /** The language's words are kinds from here on, in the order in which WORDS has them. */
        static final int GOOD = 100;
        static final int FLOAT = 101;
        static final int WANTS = 102;
        static final int LIKE = 103;
        static final int TOWN = 104;
        static final int GIVES = 105;
        static final int VOTES = 106;
        static final int BOUND = 107;
        static final int ASK = 108;
        static final int GROUND = 109;
        static final int STORM = 110;
        static final int FIRST_NAME = 111;
        static final int LAST_NAME = 115;

        static final int CANNOT_STAND = 1;
        static final int TOO_MUCH = 2;
        static final int TOLD_ALREADY = 3;
        static final int NOT_TOLD = 4;

        private static final String WORDS =
            "good float wants like town gives votes bound ask ground storm members many cost pays own ";
        private static final int LETTERS_MOST = 6;
        /** No number of the language comes near it; longer ones stay here, so that none runs over. */
        private static final int NUMBER_MOST = 100000;

        private final int[] tape = new int[TAPE_MOST];
        private final int[] kinds = new int[TAPE_MOST];
        private final int[] values = new int[TAPE_MOST];
        private final int[] starts = new int[TAPE_MOST];
        private int fed;
        private int size;
        private int many;
        private int next;
        private int start;
        private int fault;
        private int faultPlace;
        /** What stands here. */
        int kind;
        /** The number that stands here, or the name's letters, five bits each, the first one highest of six. */
        int value;

        boolean hasRoom(int bytes) {
            return fed + bytes <= TAPE_MOST;
        }

        int tapeLength() {
            return fed;
        }

        void putFour(int bytes) {
            for (int shift = 24; shift >= 0; shift -= 8) {
                if (fed < TAPE_MOST) {
                    tape[fed] = (bytes >> shift) & 255;
                    fed++;
                }
            }
        }

        /** The first n bytes are read from here on, and the tape is empty. */
        void open(int n) {
            size = Math.min(n, fed);
            fed = 0;
            many = 0;
            for (int at = 0; at < size; at++) {
                if (tape[at] != 10 && tape[at] != 32 && many < TAPE_MOST) {
                    int from = at;
                    at = Math.max(from, lastOf(from));
                    starts[many] = from;
                    kinds[many] = kindOf(from, at + 1);
                    values[many] = valueOf(from, at + 1, kinds[many]);
                    many++;
                }
            }
            next = 0;
            fault = 0;
            faultPlace = NONE;
            step();
        }

        int faultFound() {
            return fault;
        }

        int placeOfFault() {
            return faultPlace;
        }

        boolean isSound() {
            return fault == 0;
        }

        /** The first fault stays: what comes behind it is not looked at. */
        void refuse(int which) {
            if (fault == 0) {
                fault = which;
                faultPlace = start;
            }
        }

        void step() {
            boolean more = next < many;
            kind = more ? kinds[next] : END;
            value = more ? values[next] : 0;
            start = more ? starts[next] : size;
            next += more ? 1 : 0;
        }

        boolean take(int wanted) {
            if (fault != 0) {
                return false;
            }
            if (kind != wanted) {
                refuse(CANNOT_STAND);
                return false;
            }
            step();
            return true;
        }

        /** The number that stands here, and a step behind it; NONE with a fault. */
        int takeNumber(int low, int high) {
            if (fault != 0) {
                return NONE;
            }
            if (kind != NUMBER) {
                refuse(CANNOT_STAND);
                return NONE;
            }
            if (value < low || value > high) {
                refuse(TOO_MUCH);
                return NONE;
            }
            int number = value;
            step();
            return number;
        }

        /** Where the token that starts here has its last sign. */
        private int lastOf(int from) {
            int last = from;
            while (last + 1 < size && (isLetter(tape[from]) && isLetter(tape[last + 1])
                || isDigit(tape[from]) && isDigit(tape[last + 1]))) {
                last++;
            }
            return last;
        }

        private int kindOf(int from, int to) {
            if (isLetter(tape[from])) {
                return kindOfWord(from, to);
            }
            return isDigit(tape[from]) ? NUMBER : signKind(tape[from]);
        }

        private int valueOf(int from, int to, int kindThere) {
            int found = 0;
            if (kindThere == NUMBER) {
                for (int i = from; i < to; i++) {
                    found = Math.min(NUMBER_MOST, found * 10 + tape[i] - '0');
                }
            } else if (kindThere == FREE_WORD) {
                for (int i = from; i < from + LETTERS_MOST; i++) {
                    found = (found << 5) + (i < to ? tape[i] - 'a' + 1 : 0);
                }
            }
            return found;
        }

        private int kindOfWord(int from, int to) {
            int word = GOOD;
            int begin = 0;
            for (int i = 0; i < WORDS.length(); i++) {
                if (WORDS.charAt(i) == ' ') {
                    if (i - begin == to - from && isSame(begin, from, to)) {
                        return word;
                    }
                    word++;
                    begin = i + 1;
                }
            }
            return to - from > LETTERS_MOST ? BROKEN : FREE_WORD;
        }

        /** Whether the word that begins there in WORDS is the one on the tape. */
        private boolean isSame(int begin, int from, int to) {
            for (int i = from; i < to; i++) {
                if (WORDS.charAt(begin + i - from) != tape[i]) {
                    return false;
                }
            }
            return true;
        }

        private static int signKind(int sign) {
            switch (sign) {
                case '-':
                case '+':
                case '*':
                case '/':
                case '(':
                case ')':
                case ';':
                    return sign;
                default:
                    return BROKEN;
            }
        }

        private static boolean isLetter(int sign) {
            return sign >= 'a' && sign <= 'z';
        }

        private static boolean isDigit(int sign) {
            return sign >= '0' && sign <= '9';
        }
    }

    /** Reads the lines of a text into a plan, along the tokens. */
    private static final class Reader {
        private static final int COST_MOST = 999;
        private static final int RATE_HIGH = 99;
        private static final int LIKING_MOST = 20;

        private final Tokens tokens;
        private Plan plan;

        Reader(Tokens tokens) {
            this.tokens = tokens;
        }

        /** Whether the first n bytes of the tape are a text; then the plan tells what they tell. */
        boolean reads(int n, Plan into) {
            plan = into;
            plan.wipe();
            tokens.open(n);
            for (int i = 0; i < TAPE_MOST && tokens.isSound() && tokens.kind != Tokens.END; i++) {
                switch (tokens.kind) {
                    case Tokens.GOOD:
                        readGood();
                        break;
                    case Tokens.FLOAT:
                        readFloat();
                        break;
                    case Tokens.LIKE:
                        readLiking();
                        break;
                    case Tokens.TOWN:
                        readTown();
                        break;
                    case Tokens.GROUND:
                        readGround();
                        break;
                    case Tokens.STORM:
                        readStorm();
                        break;
                    default:
                        tokens.refuse(Tokens.CANNOT_STAND);
                        break;
                }
                tokens.take(';');
                plan.lines++;
            }
            return tokens.isSound();
        }

        private void readGood() {
            int good = newOne(GOOD_KIND, GOODS);
            int cost = tokens.takeNumber(0, COST_MOST);
            if (good != NONE && cost != NONE) {
                plan.costs[good] = cost;
            }
        }

        private void readFloat() {
            int sort = newOne(SORT_KIND, SORTS);
            int many = tokens.takeNumber(1, Math.min(SORT_MOST, FLOATS_MOST - plan.floats));
            int pays = tokens.takeNumber(0, RATE_HIGH);
            int own = tokens.takeNumber(0, COST_MOST);
            int moving = tokens.takeNumber(0, RATE_HIGH);
            if (sort == NONE || !tokens.isSound()) {
                return;
            }
            plan.addFloats(sort, many);
            plan.figures[sort * FIGURES + PAYS] = pays;
            plan.figures[sort * FIGURES + OWN] = own;
            plan.figures[sort * FIGURES + MOVING] = moving;
            for (int i = 0; i < TAPE_MOST && tokens.isSound() && tokens.kind == Tokens.WANTS; i++) {
                readWant(sort);
            }
        }

        private void readWant(int sort) {
            tokens.step();
            int good = oldOne(GOOD_KIND);
            if (good == NONE) {
                return;
            }
            int bit = 1 << (sort * GOODS + good);
            if ((plan.wantsTold & bit) != 0) {
                tokens.refuse(Tokens.TOLD_ALREADY);
                return;
            }
            plan.wantsTold |= bit;
            tokens.step();
            int want = tokens.takeNumber(0, RATE_HIGH);
            plan.wants[sort * GOODS + good] = Math.max(0, want);
        }

        private void readLiking() {
            tokens.step();
            int sort = oldOne(SORT_KIND);
            if (sort == NONE) {
                return;
            }
            tokens.step();
            int other = oldOne(SORT_KIND);
            if (other == NONE) {
                return;
            }
            int bit = 1 << (sort * SORTS + other);
            if ((plan.likesTold & bit) != 0) {
                tokens.refuse(Tokens.TOLD_ALREADY);
                return;
            }
            plan.likesTold |= bit;
            tokens.step();
            boolean below = tokens.kind == '-';
            if (below) {
                tokens.step();
            }
            int liking = tokens.takeNumber(0, LIKING_MOST);
            plan.likes[sort * SORTS + other] = below ? -liking : liking;
        }

        private void readTown() {
            int town = newOne(TOWN_KIND, TOWNS);
            if (town == NONE) {
                return;
            }
            for (int i = 0; i < TAPE_MOST && tokens.isSound() && tokens.kind == Tokens.GIVES; i++) {
                readGift(town);
            }
            if (tokens.isSound() && tokens.kind == Tokens.VOTES) {
                plan.votingTowns |= 1 << town;
                tokens.step();
            }
            if (tokens.isSound() && tokens.kind == Tokens.BOUND) {
                plan.boundTowns |= 1 << town;
                tokens.step();
            }
            if (tokens.take(Tokens.ASK)) {
                plan.rules.readRule(tokens, town);
            }
        }

        private void readGift(int town) {
            tokens.step();
            int good = oldOne(GOOD_KIND);
            if (good == NONE) {
                return;
            }
            if (((plan.gives[town] >> good) & 1) != 0) {
                tokens.refuse(Tokens.TOLD_ALREADY);
                return;
            }
            plan.gives[town] |= 1 << good;
            tokens.step();
        }

        private void readGround() {
            tokens.step();
            int town = oldOne(TOWN_KIND);
            if (town == NONE) {
                return;
            }
            if (plan.grounds.isTold(town)) {
                tokens.refuse(Tokens.TOLD_ALREADY);
                return;
            }
            tokens.step();
            plan.grounds.readRows(tokens, town);
        }

        private void readStorm() {
            if (plan.storm != 0) {
                tokens.refuse(Tokens.TOLD_ALREADY);
                return;
            }
            tokens.step();
            plan.storm = Math.max(0, tokens.takeNumber(2, 99));
        }

        /** At a line's word: a number for the new one of a kind, its name behind the word; NONE with a fault. */
        private int newOne(int kind, int most) {
            int number = plan.told[kind];
            if (number >= most) {
                tokens.refuse(Tokens.TOO_MUCH);
                return NONE;
            }
            tokens.step();
            if (tokens.kind != Tokens.FREE_WORD) {
                tokens.refuse(Tokens.CANNOT_STAND);
                return NONE;
            }
            if (plan.find(kind, tokens.value) != NONE) {
                tokens.refuse(Tokens.TOLD_ALREADY);
                return NONE;
            }
            plan.addName(kind, tokens.value);
            tokens.step();
            return number;
        }

        /** The number of the one that is named here; NONE with a fault. No step, as a fault may yet lie here. */
        private int oldOne(int kind) {
            if (tokens.kind != Tokens.FREE_WORD) {
                tokens.refuse(Tokens.CANNOT_STAND);
                return NONE;
            }
            int number = plan.find(kind, tokens.value);
            if (number == NONE) {
                tokens.refuse(Tokens.NOT_TOLD);
            }
            return number;
        }
    }

    /** What the towns ask: each rule as a row of steps over a stack, so that it is worked out without recursion. */
    private static final class Rules {
        static final int NAMES = 5;
        static final int MEMBERS = 0;
        static final int MANY_OF_SORT = 1;
        static final int COST = 2;
        static final int PAYS_NAME = 3;
        static final int OWN_NAME = 4;

        private static final int KNOTS_MOST = 64;
        private static final int OPEN_MOST = 8;
        private static final int NUMBER_MOST = 999;
        /** A step below FIRST_NAME is a number, then come the names, then the signs. */
        private static final int FIRST_NAME = 1000;
        private static final int NEGATE = 2000;
        private static final int SIGN = 3000;
        private static final long VALUE_MOST = 1000000000000L;
        /** A product beyond this, cut by UNIT, is above VALUE_MOST. */
        private static final long PRODUCT_MOST = (VALUE_MOST + 1) * UNIT - 1;
        private static final long ERROR = Long.MIN_VALUE;

        /** What the names mean, in UNITS, for the rule that is worked out next. */
        final long[] meanings = new long[NAMES];
        int knots;
        private final int[] steps = new int[KNOTS_MOST];
        private final int[] starts = new int[TOWNS];
        private final int[] ends = new int[TOWNS];
        private final long[] values = new long[KNOTS_MOST];
        private final int[] waiting = new int[KNOTS_MOST + OPEN_MOST];
        private int written;
        private int waits;
        private int open;

        void wipeRules() {
            knots = 0;
            written = 0;
            Arrays.fill(starts, 0);
            Arrays.fill(ends, 0);
        }

        void readRule(Tokens tokens, int town) {
            starts[town] = written;
            waits = 0;
            open = 0;
            boolean operand = true;
            for (int i = 0; i < TAPE_MOST && tokens.isSound(); i++) {
                if (operand) {
                    operand = readOperand(tokens);
                } else if (tokens.kind == ')' && open > 0) {
                    closeBracket();
                    tokens.step();
                } else if (isSign(tokens.kind)) {
                    readSign(tokens);
                    operand = true;
                } else {
                    break;
                }
            }
            if (open > 0) {
                tokens.refuse(Tokens.CANNOT_STAND);
            }
            writeWaiting(1);
            ends[town] = written;
        }

        /** E for what the names mean; 0 with an error. */
        long workedOut(int town) {
            int top = 0;
            for (int i = starts[town]; i < ends[town]; i++) {
                int step = steps[i];
                if (step >= SIGN) {
                    if (top < 2) {
                        return 0;
                    }
                    top--;
                    values[top - 1] = joined(step - SIGN, values[top - 1], values[top]);
                    if (values[top - 1] == ERROR) {
                        return 0;
                    }
                } else if (step == NEGATE) {
                    if (top < 1) {
                        return 0;
                    }
                    values[top - 1] = -values[top - 1];
                } else if (top < KNOTS_MOST) {
                    values[top] = step < FIRST_NAME ? step * UNIT : meanings[step - FIRST_NAME];
                    top++;
                }
            }
            return top == 1 ? values[0] : 0;
        }

        /** One token where a value must begin; whether a value must still begin behind it. */
        private boolean readOperand(Tokens tokens) {
            int kind = tokens.kind;
            if (kind == Tokens.NUMBER) {
                if (addKnot(tokens)) {
                    writeStep(tokens.takeNumber(0, NUMBER_MOST));
                }
            } else if (kind >= Tokens.FIRST_NAME && kind <= Tokens.LAST_NAME) {
                if (addKnot(tokens)) {
                    writeStep(FIRST_NAME + kind - Tokens.FIRST_NAME);
                    tokens.step();
                }
            } else if (kind == '-') {
                if (addKnot(tokens)) {
                    hold(NEGATE);
                    tokens.step();
                }
                return true;
            } else if (kind == '(') {
                openBracket(tokens);
                return true;
            } else {
                tokens.refuse(Tokens.CANNOT_STAND);
            }
            writeNegations();
            return false;
        }

        private void readSign(Tokens tokens) {
            if (!addKnot(tokens)) {
                return;
            }
            boolean strong = tokens.kind == '*' || tokens.kind == '/';
            writeWaiting(strong ? 2 : 1);
            hold(SIGN + tokens.kind);
            tokens.step();
        }

        private void openBracket(Tokens tokens) {
            if (open >= OPEN_MOST) {
                tokens.refuse(Tokens.TOO_MUCH);
                return;
            }
            open++;
            hold('(');
            tokens.step();
        }

        private void closeBracket() {
            writeWaiting(1);
            if (waits > 0) {
                waits--;
            }
            open--;
            writeNegations();
        }

        private boolean addKnot(Tokens tokens) {
            if (knots >= KNOTS_MOST) {
                tokens.refuse(Tokens.TOO_MUCH);
                return false;
            }
            knots++;
            return true;
        }

        private void hold(int step) {
            if (waits < waiting.length) {
                waiting[waits] = step;
                waits++;
            }
        }

        private void writeStep(int step) {
            if (written < KNOTS_MOST && step >= 0) {
                steps[written] = step;
                written++;
            }
        }

        /** A minus ahead of a value belongs to that value alone. */
        private void writeNegations() {
            while (waits > 0 && waiting[waits - 1] == NEGATE) {
                waits--;
                writeStep(NEGATE);
            }
        }

        /** Writes the signs back to the last open bracket that bind at least so strongly. */
        private void writeWaiting(int strength) {
            while (waits > 0 && strengthOf(waiting[waits - 1]) >= strength) {
                waits--;
                writeStep(waiting[waits]);
            }
        }

        private static int strengthOf(int step) {
            if (step == SIGN + '*' || step == SIGN + '/') {
                return 2;
            }
            return step == SIGN + '+' || step == SIGN + '-' ? 1 : 0;
        }

        private static boolean isSign(int kind) {
            return kind == '+' || kind == '-' || kind == '*' || kind == '/';
        }

        private static long joined(int sign, long a, long b) {
            switch (sign) {
                case '+':
                    return checked(a + b);
                case '-':
                    return checked(a - b);
                case '*':
                    return product(a, b);
                default:
                    return b == 0 ? ERROR : checked(a * UNIT / b);
            }
        }

        private static long product(long a, long b) {
            if (b == 0) {
                return 0;
            }
            return Math.abs(a) > PRODUCT_MOST / Math.abs(b) ? ERROR : a * b / UNIT;
        }

        private static long checked(long value) {
            return value > VALUE_MOST || value < -VALUE_MOST ? ERROR : value;
        }
    }

    /** The towns' grounds, and how a float gets out of one. */
    private static final class Grounds {
        private static final int SIDE = 6;
        private static final int FAR = 1000;

        private final int[] wide = new int[TOWNS];
        private final int[] high = new int[TOWNS];
        private final int[] rows = new int[TOWNS * SIDE];
        private final int[] moved = new int[SIDE * SIDE];

        void wipeGrounds() {
            Arrays.fill(wide, 0);
            Arrays.fill(high, 0);
        }

        boolean isTold(int town) {
            return wide[town] > 0;
        }

        void readRows(Tokens tokens, int town) {
            int width = tokens.takeNumber(1, SIDE);
            if (width == NONE) {
                return;
            }
            wide[town] = width;
            for (int i = 0; i <= SIDE && tokens.isSound() && tokens.kind == Tokens.NUMBER; i++) {
                if (i == SIDE) {
                    tokens.refuse(Tokens.TOO_MUCH);
                    return;
                }
                rows[town * SIDE + i] = Math.max(0, tokens.takeNumber(0, (1 << width) - 1));
                high[town] = i + 1;
            }
        }

        boolean hasPlace(int town, int x, int y) {
            return x >= 0 && x < wide[town] && y >= 0 && y < high[town];
        }

        boolean isTaken(int town, int x, int y) {
            return ((rows[town * SIDE + y] >> x) & 1) != 0;
        }

        /** How many others must at least move so that the float at (x, y) comes beyond the edge. */
        int leastMoved(int town, int x, int y) {
            Arrays.fill(moved, FAR);
            moved[y * SIDE + x] = 0;
            boolean better = true;
            // a way through the ground has fewer places than the ground
            for (int round = 0; round < SIDE * SIDE && better; round++) {
                better = spread(town);
            }
            int least = FAR;
            for (int row = 0; row < high[town]; row++) {
                for (int column = 0; column < wide[town]; column++) {
                    if (row == 0 || row == high[town] - 1 || column == 0 || column == wide[town] - 1) {
                        least = Math.min(least, moved[row * SIDE + column]);
                    }
                }
            }
            return least;
        }

        private boolean spread(int town) {
            boolean better = false;
            for (int y = 0; y < high[town]; y++) {
                for (int x = 0; x < wide[town]; x++) {
                    int near = Math.min(Math.min(movedAt(town, x - 1, y), movedAt(town, x + 1, y)),
                        Math.min(movedAt(town, x, y - 1), movedAt(town, x, y + 1)));
                    int here = near + (isTaken(town, x, y) ? 1 : 0);
                    if (here < moved[y * SIDE + x]) {
                        moved[y * SIDE + x] = here;
                        better = true;
                    }
                }
            }
            return better;
        }

        private int movedAt(int town, int x, int y) {
            return hasPlace(town, x, y) ? moved[y * SIDE + x] : FAR;
        }
    }

    /** What a text tells. */
    private static final class Plan {
        private static final int CREW_BITS = 15;

        final int[] told = new int[KINDS];
        final int[] costs = new int[GOODS];
        final int[] figures = new int[SORTS * FIGURES];
        final int[] wants = new int[SORTS * GOODS];
        final int[] likes = new int[SORTS * SORTS];
        final int[] gives = new int[TOWNS];
        final Rules rules = new Rules();
        final Grounds grounds = new Grounds();
        int wantsTold;
        int likesTold;
        int votingTowns;
        int boundTowns;
        int storm;
        int lines;
        int floats;
        /** The crew of all floats. */
        int whole;
        private final int[] names = new int[KINDS * SORTS];

        void wipe() {
            Arrays.fill(told, 0);
            Arrays.fill(costs, 0);
            Arrays.fill(figures, 0);
            Arrays.fill(wants, 0);
            Arrays.fill(likes, 0);
            Arrays.fill(gives, 0);
            rules.wipeRules();
            grounds.wipeGrounds();
            wantsTold = 0;
            likesTold = 0;
            votingTowns = 0;
            boundTowns = 0;
            storm = 0;
            lines = 0;
            floats = 0;
            whole = 0;
        }

        int find(int kind, int name) {
            for (int i = 0; i < told[kind]; i++) {
                if (names[kind * SORTS + i] == name) {
                    return i;
                }
            }
            return NONE;
        }

        void addName(int kind, int name) {
            if (told[kind] < SORTS) {
                names[kind * SORTS + told[kind]] = name;
                told[kind]++;
            }
        }

        void addFloats(int sort, int many) {
            figures[sort * FIGURES + MANY] = many;
            floats += many;
            whole += many * one(sort);
        }

        int figure(int sort, int what) {
            return figures[sort * FIGURES + what];
        }

        int sorts() {
            return told[SORT_KIND];
        }

        /** The number of towns, and of the place ALONE behind them. */
        int alone() {
            return told[TOWN_KIND];
        }

        int crewAt(long parting, int place) {
            if (place < alone()) {
                return crewOf(parting, place);
            }
            int crew = whole;
            for (int town = 0; town < alone(); town++) {
                crew -= crewOf(parting, town);
            }
            return crew;
        }

        /** The parting behind a crew's way from place a to b; of those ALONE nothing is written. */
        long shifted(long parting, int crew, int a, int b) {
            long left = a < alone() ? parting - inTown(crew, a) : parting;
            return b < alone() ? left + inTown(crew, b) : left;
        }

        static int crewOf(long parting, int town) {
            return (int) (parting >> (CREW_BITS * town)) & ((1 << CREW_BITS) - 1);
        }

        /** A crew at its town's bits of a parting. */
        static long inTown(int crew, int town) {
            return (long) crew << (CREW_BITS * town);
        }

        /** Sum over a crew of one of the sorts' figures. */
        int sumOf(int crew, int what) {
            int sum = 0;
            for (int sort = 0; sort < sorts(); sort++) {
                sum += part(crew, sort) * figure(sort, what);
            }
            return sum;
        }

        int costOf(int goods) {
            int cost = 0;
            for (int good = 0; good < GOODS; good++) {
                cost += ((goods >> good) & 1) * costs[good];
            }
            return cost;
        }

        /** The goods that a town gives to a crew. */
        int givenTo(int town, int crew) {
            if (((votingTowns >> town) & 1) == 0) {
                return gives[town];
            }
            int members = sizeOf(crew);
            int given = 0;
            for (int good = 0; good < told[GOOD_KIND]; good++) {
                int voters = 0;
                for (int sort = 0; sort < sorts(); sort++) {
                    voters += wants[sort * GOODS + good] * members > costs[good] ? part(crew, sort) : 0;
                }
                given |= 2 * voters > members ? 1 << good : 0;
            }
            return given & gives[town];
        }
    }

    /** Who is where, on which terms, and when. */
    private static final class Scene {
        final int[] extras = new int[TOWNS];
        long parting;
        int bound;
        int tied;
        int months;

        void begin(int boundTowns) {
            Arrays.fill(extras, 0);
            parting = 0;
            bound = boundTowns;
            tied = 0;
            months = 0;
        }

        void copyOf(Scene other) {
            System.arraycopy(other.extras, 0, extras, 0, TOWNS);
            parting = other.parting;
            bound = other.bound;
            tied = other.tied;
            months = other.months;
        }

        /** Whether the same towns are bound and ask the same beyond their rules. */
        boolean hasTermsOf(Scene other) {
            for (int town = 0; town < TOWNS; town++) {
                if (extras[town] != other.extras[town]) {
                    return false;
                }
            }
            return bound == other.bound;
        }

        boolean isBound(int place) {
            return ((bound >> place) & 1) != 0;
        }
    }

    /**
     * What a crew in a town comes to: the goods given to it, what each of its sorts likes there and is asked by the
     * rule. Worked out for all crews when a text is read, as the same crews are met again and again.
     */
    private static final class Ledger {
        /** Sorts of 3, 3, 2, 2 and 2 floats make the most crews. */
        private static final int CREWS_MOST = 432;
        /** For a crew with one float more than there are of a sort. */
        private static final int SPARE_ROW = TOWNS * CREWS_MOST;

        final int[] given = new int[SPARE_ROW + 1];
        int crews;
        private final int[] liked = new int[(SPARE_ROW + 1) * SORTS];
        private final long[] ruled = new long[(SPARE_ROW + 1) * SORTS];
        private final int[] weights = new int[SORTS];
        private Plan plan;

        void workOut(Plan told) {
            plan = told;
            crews = 1;
            for (int sort = SORTS - 1; sort >= 0; sort--) {
                weights[sort] = crews;
                crews *= sort < plan.sorts() ? plan.figure(sort, MANY) + 1 : 1;
            }
            crews = Math.min(crews, CREWS_MOST);
            for (int town = 0; town < plan.alone(); town++) {
                for (int number = 0; number < crews; number++) {
                    write(town * CREWS_MOST + number, town, crewOfNumber(number));
                }
            }
        }

        /** The crew of a number: numbers go up with how many of sort 0, then of sort 1 and so on. */
        int crewOfNumber(int number) {
            int rest = number;
            int crew = 0;
            for (int sort = 0; sort < plan.sorts(); sort++) {
                int weight = Math.max(1, weights[sort]);
                crew += rest / weight * one(sort);
                rest %= weight;
            }
            return crew;
        }

        /** The row of a crew, of which there are so many of each sort. */
        int row(int town, int crew) {
            int number = 0;
            for (int sort = 0; sort < SORTS; sort++) {
                number += ((crew >> (3 * sort)) & 7) * weights[sort];
            }
            return town * CREWS_MOST + Math.min(number, CREWS_MOST - 1);
        }

        /** A row for any crew, until the next one is asked for. */
        int spareRow(int town, int crew) {
            write(SPARE_ROW, town, crew);
            return SPARE_ROW;
        }

        long likedBy(int sort, int row) {
            return liked[row * SORTS + sort] * UNIT;
        }

        long ruledFor(int sort, int row) {
            return ruled[row * SORTS + sort];
        }

        private void write(int row, int town, int crew) {
            int goods = plan.givenTo(town, crew);
            given[row] = goods;
            Rules rules = plan.rules;
            rules.meanings[Rules.MEMBERS] = sizeOf(crew) * UNIT;
            rules.meanings[Rules.COST] = plan.costOf(goods) * UNIT;
            for (int sort = 0; sort < plan.sorts(); sort++) {
                rules.meanings[Rules.MANY_OF_SORT] = part(crew, sort) * UNIT;
                rules.meanings[Rules.PAYS_NAME] = plan.figure(sort, PAYS) * UNIT;
                rules.meanings[Rules.OWN_NAME] = plan.figure(sort, OWN) * UNIT;
                ruled[row * SORTS + sort] = rules.workedOut(town);
                liked[row * SORTS + sort] = likedIn(sort, goods, crew);
            }
        }

        /** What one of a sort in the crew wants of the goods, and likes of the others. */
        private int likedIn(int sort, int goods, int crew) {
            int sum = 0;
            for (int good = 0; good < GOODS; good++) {
                sum += ((goods >> good) & 1) * plan.wants[sort * GOODS + good];
            }
            for (int other = 0; other < plan.sorts(); other++) {
                int others = part(crew, other) - (other == sort ? 1 : 0);
                sum += others * plan.likes[sort * SORTS + other];
            }
            return sum;
        }
    }

    /** What floats gain in a scene, and who would go; what was sought and found stays in the fields. */
    private static final class Sailing {
        private static final int NO_EDGE = 1000;

        Plan plan;
        int foundSort;
        int foundCrew;
        int foundFrom;
        int foundTo;
        int foundFlat;
        int foundTimes;
        long foundBetter;
        private final Ledger ledger = new Ledger();
        /** The town that asks foundFlat and foundTimes what a sort pays, in place of its rule; else NONE. */
        private int reformed = NONE;

        void board(Plan plan) {
            this.plan = plan;
            ledger.workOut(plan);
        }

        int givenIn(int town, int crew) {
            return ledger.given[ledger.row(town, crew)];
        }

        long askedIn(Scene scene, int sort, int town, int crew) {
            return askedByRow(scene, sort, town, ledger.row(town, crew));
        }

        private long askedByRow(Scene scene, int sort, int town, int row) {
            long rule = town == reformed
                ? (foundFlat + foundTimes * plan.figures[sort * FIGURES + PAYS]) * UNIT
                : ledger.ruledFor(sort, row);
            return rule + scene.extras[town] * UNIT;
        }

        /** Worth of a place to one of a sort in the crew that is there. */
        long worthIn(Scene scene, int sort, int place, int crew) {
            if (place >= plan.alone()) {
                return plan.figure(sort, OWN) * UNIT;
            }
            int row = ledger.row(place, crew);
            return ledger.likedBy(sort, row) - askedByRow(scene, sort, place, row);
        }

        /** The same with one more of the sort, even if all of it are there already. */
        long worthOfOneMore(Scene scene, int sort, int place, int crew) {
            if (place >= plan.alone()) {
                return plan.figure(sort, OWN) * UNIT;
            }
            int row = ledger.spareRow(place, crew + one(sort));
            return ledger.likedBy(sort, row) - askedByRow(scene, sort, place, row);
        }

        /** Worth of a place to all of a crew that is there. */
        long sumIn(Scene scene, int place, int crew) {
            long sum = 0;
            for (int sort = 0; sort < plan.sorts(); sort++) {
                if (part(crew, sort) > 0) {
                    sum += part(crew, sort) * worthIn(scene, sort, place, crew);
                }
            }
            return sum;
        }

        long totalOf(Scene scene) {
            long sum = 0;
            for (int place = 0; place <= plan.alone(); place++) {
                sum += sumIn(scene, place, plan.crewAt(scene.parting, place));
            }
            return sum;
        }

        boolean isMet(Scene scene, int town) {
            int crew = plan.crewAt(scene.parting, town);
            int row = ledger.row(town, crew);
            long sum = 0;
            for (int sort = 0; sort < plan.sorts(); sort++) {
                if (part(crew, sort) > 0) {
                    sum += part(crew, sort) * askedByRow(scene, sort, town, row);
                }
            }
            return sum >= plan.costOf(ledger.given[row]) * UNIT;
        }

        long gainOf(Scene scene, int sort, int a, int b) {
            int crewB = plan.crewAt(scene.parting, b) + one(sort);
            return worthIn(scene, sort, b, crewB) - stayOf(scene, sort, a);
        }

        /** What one of a sort must find elsewhere, to lose nothing: its worth at a and its moving. */
        private long stayOf(Scene scene, int sort, int a) {
            return worthIn(scene, sort, a, plan.crewAt(scene.parting, a)) + plan.figure(sort, MOVING) * UNIT;
        }

        /** Finds the first float that would go. */
        boolean seekFirst(Scene scene) {
            for (int sort = 0; sort < plan.sorts(); sort++) {
                for (int a = 0; a <= plan.alone(); a++) {
                    if (!canLeave(scene, one(sort), a)) {
                        continue;
                    }
                    long stay = stayOf(scene, sort, a);
                    for (int b = 0; b <= plan.alone(); b++) {
                        int crew = plan.crewAt(scene.parting, b) + one(sort);
                        if (b != a && worthIn(scene, sort, b, crew) > stay) {
                            foundSort = sort;
                            foundFrom = a;
                            foundTo = b;
                            return true;
                        }
                    }
                }
            }
            return false;
        }

        private boolean canLeave(Scene scene, int crew, int a) {
            return !scene.isBound(a) && covers(plan.crewAt(scene.parting, a), crew);
        }

        /** The float that was found goes. */
        void sailFound(Scene scene) {
            scene.parting = plan.shifted(scene.parting, one(foundSort), foundFrom, foundTo);
        }

        /** Whether a party, all of it at a, would go to b. */
        boolean partyWould(Scene scene, int party, int a, int b) {
            if (scene.isBound(a)) {
                return false;
            }
            int crewB = plan.crewAt(scene.parting, b) + party;
            for (int sort = 0; sort < plan.sorts(); sort++) {
                if (part(party, sort) > 0 && worthIn(scene, sort, b, crewB) <= stayOf(scene, sort, a)) {
                    return false;
                }
            }
            return true;
        }

        /** Finds the first party of at most so many floats that would go. */
        boolean seekParty(Scene scene, int most) {
            for (int size = 1; size <= most; size++) {
                for (int number = ledger.crews - 1; number > 0; number--) {
                    int party = ledger.crewOfNumber(number);
                    if (sizeOf(party) == size && seekPlaces(scene, party)) {
                        foundCrew = party;
                        return true;
                    }
                }
            }
            return false;
        }

        private boolean seekPlaces(Scene scene, int party) {
            for (int a = 0; a <= plan.alone(); a++) {
                if (!canLeave(scene, party, a)) {
                    continue;
                }
                for (int b = 0; b <= plan.alone(); b++) {
                    if (b != a && partyWould(scene, party, a, b)) {
                        foundFrom = a;
                        foundTo = b;
                        return true;
                    }
                }
            }
            return false;
        }

        int edgeOf(Scene scene, int town, int sort) {
            if (scene.isBound(town)) {
                return NO_EDGE;
            }
            long least = NO_EDGE;
            for (int b = 0; b <= plan.alone(); b++) {
                if (b != town) {
                    long gain = gainOf(scene, sort, town, b);
                    least = Math.min(least, gain > 0 ? 0 : -gain / UNIT + 1);
                }
            }
            return (int) least;
        }

        /** Finds the first flat sum and rate with which the parting holds and the town's costs are met. */
        boolean seekReform(Scene scene, int town, int flatMost, int timesMost) {
            reformed = town;
            boolean found = false;
            for (int flat = 0; flat <= flatMost && !found; flat++) {
                for (int times = 0; times <= timesMost && !found; times++) {
                    foundFlat = flat;
                    foundTimes = times;
                    found = isMet(scene, town) && !seekFirst(scene);
                }
            }
            reformed = NONE;
            return found;
        }

        /** Finds the party from a town to an empty one, or nobody, that is best for all of the town. */
        void seekSplit(Scene scene, int town, int other) {
            int crew = plan.crewAt(scene.parting, town);
            long asItIs = sumIn(scene, town, crew);
            foundCrew = 0;
            foundBetter = 0;
            for (int number = 1; number < ledger.crews; number++) {
                int party = ledger.crewOfNumber(number);
                if (covers(crew, party)) {
                    long parted = sumIn(scene, town, crew - party) + sumIn(scene, other, party)
                        - plan.sumOf(party, MOVING) * UNIT;
                    if (parted - asItIs > foundBetter) {
                        foundBetter = parted - asItIs;
                        foundCrew = party;
                    }
                }
            }
        }
    }

    /** One going after another, and months with their chances. */
    private static final class Course {
        static final int STANDS = 1;
        static final int RING = 2;
        static final int LOST = 3;
        private static final int MORE_MOST = 40;
        private static final int STORM_MONTHS = 12;

        int end;
        int behind;
        int period;
        private final Sailing sailing;
        private final long[] seen = new long[GOINGS_MOST + 1];
        private final Scene path = new Scene();
        private final Scene terms = new Scene();
        private long chance;

        Course(Sailing sailing) {
            this.sailing = sailing;
        }

        /** At most n goings, changing the scene: how many were. */
        int sail(Scene scene, int n) {
            for (int gone = 0; gone < n; gone++) {
                if (!sailing.seekFirst(scene)) {
                    return gone;
                }
                sailing.sailFound(scene);
            }
            return n;
        }

        /** Tells in end, behind and period what goings from the scene on come to. */
        void trace(Scene from) {
            path.copyOf(from);
            end = LOST;
            behind = NONE;
            period = NONE;
            for (int gone = 0; gone <= GOINGS_MOST; gone++) {
                int same = seenBefore(gone);
                if (same != NONE) {
                    end = RING;
                    behind = same;
                    period = gone - same;
                    return;
                }
                seen[gone] = path.parting;
                if (!sailing.seekFirst(path)) {
                    end = STANDS;
                    behind = gone;
                    return;
                }
                sailing.sailFound(path);
            }
        }

        private int seenBefore(int gone) {
            for (int i = 0; i < gone; i++) {
                if (seen[i] == path.parting) {
                    return i;
                }
            }
            return NONE;
        }

        /** The least that the town may ask more, so that goings stand with nobody there. */
        int leastEmptying(Scene from, int town) {
            terms.copyOf(from);
            for (int more = 0; more <= MORE_MOST; more++) {
                terms.extras[town] = from.extras[town] + more;
                trace(terms);
                if (end == STANDS && sailing.plan.crewAt(path.parting, town) == 0) {
                    return more;
                }
            }
            return MORE_MOST + 1;
        }

        void sow(int seed) {
            chance = seed;
        }

        void pass(Scene scene, int many) {
            int storm = sailing.plan.storm;
            for (int month = 0; month < many; month++) {
                if (scene.tied > 0) {
                    scene.tied--;
                } else if (sailing.seekFirst(scene)) {
                    sailing.sailFound(scene);
                }
                if (storm > 0 && nextNumber() % storm == 0) {
                    scene.tied = STORM_MONTHS;
                }
                scene.months++;
            }
        }

        /** In how many of the draws the town is empty at the end. */
        int emptyDraws(Scene from, int town, int draws, int many) {
            int empty = 0;
            for (int draw = 0; draw < draws; draw++) {
                path.copyOf(from);
                pass(path, many);
                if (sailing.plan.crewAt(path.parting, town) == 0) {
                    empty++;
                }
            }
            return empty;
        }

        private long nextNumber() {
            chance = (chance * 1103515245L + 12345L) & 2147483647L;
            return chance / 65536L;
        }
    }

    /** All partings, looked through once for the same terms. */
    private static final class Survey {
        private static final int PARTINGS_MOST = 3000;

        int partings;
        int holding;
        long bestParting;
        long bestTotal;
        long greatestHeld;
        long leastHeld;
        final long[] held = new long[PARTINGS_MOST];
        private final Sailing sailing;
        private final Scene scene = new Scene();
        private boolean made;

        Survey(Sailing sailing) {
            this.sailing = sailing;
        }

        void forget() {
            made = false;
        }

        /** Looks through all partings on the scene's terms; false: there are too many. */
        boolean make(Scene now) {
            if (made && scene.hasTermsOf(now)) {
                return partings <= PARTINGS_MOST;
            }
            made = true;
            scene.copyOf(now);
            countPartings();
            if (partings > PARTINGS_MOST) {
                return false;
            }
            holding = 0;
            scene.parting = 0;
            for (int i = 0; i < partings; i++) {
                weigh(i == 0);
                scene.parting = nextParting(scene.parting);
            }
            return true;
        }

        private void weigh(boolean isFirst) {
            long total = sailing.totalOf(scene);
            if (isFirst || total > bestTotal) {
                bestTotal = total;
                bestParting = scene.parting;
            }
            if (sailing.seekFirst(scene)) {
                return;
            }
            greatestHeld = holding == 0 ? total : Math.max(greatestHeld, total);
            leastHeld = holding == 0 ? total : Math.min(leastHeld, total);
            if (holding < PARTINGS_MOST) {
                held[holding] = scene.parting;
                holding++;
            }
        }

        /** Each sort's floats go to towns and ALONE in binomial(many + towns, towns) ways. */
        private void countPartings() {
            Plan plan = sailing.plan;
            partings = 1;
            for (int sort = 0; sort < plan.sorts(); sort++) {
                int ways = 1;
                for (int town = 1; town <= plan.alone(); town++) {
                    ways = ways * (plan.figure(sort, MANY) + town) / town;
                }
                partings = Math.min(PARTINGS_MOST + 1, partings * ways);
            }
        }

        /** The next parting in the order of all: the last sort's floats in the last town count up the fastest. */
        private long nextParting(long parting) {
            Plan plan = sailing.plan;
            long next = parting;
            for (int sort = plan.sorts() - 1; sort >= 0; sort--) {
                for (int town = plan.alone() - 1; town >= 0; town--) {
                    if (part(plan.crewAt(next, plan.alone()), sort) > 0) {
                        return plan.shifted(next, one(sort), plan.alone(), town);
                    }
                    int crew = part(plan.crewAt(next, town), sort) * one(sort);
                    next = plan.shifted(next, crew, town, plan.alone());
                }
            }
            return next;
        }
    }

    /** The scenes ahead of what can be undone, and the image. */
    private static final class History {
        private static final int STEPS_MOST = 30;

        private final Scene[] scenes = new Scene[STEPS_MOST];
        private final Scene image = new Scene();
        private boolean hasImage;
        private int steps;
        /** Where the next scene is put, round and round: the oldest gives way. */
        private int next;

        History() {
            for (int i = 0; i < STEPS_MOST; i++) {
                scenes[i] = new Scene();
            }
        }

        void forget() {
            hasImage = false;
            steps = 0;
        }

        int steps() {
            return steps;
        }

        void record(Scene now) {
            scenes[next].copyOf(now);
            next = (next + 1) % STEPS_MOST;
            steps = Math.min(STEPS_MOST, steps + 1);
        }

        boolean stepBack(Scene now) {
            if (steps == 0) {
                return false;
            }
            next = (next + STEPS_MOST - 1) % STEPS_MOST;
            steps--;
            now.copyOf(scenes[next]);
            return true;
        }

        void keepImage(Scene now) {
            image.copyOf(now);
            hasImage = true;
        }

        boolean showImage(Scene now) {
            if (!hasImage) {
                return false;
            }
            now.copyOf(image);
            steps = 0;
            return true;
        }
    }
}
